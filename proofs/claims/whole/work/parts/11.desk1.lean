theorem q199 : (Jvm.Cond.fieldLink "PactClocks" (32 : Nat) "PactClocks" "partyCount" "I") ∈ lw_all := mt1 121 (by decide +kernel) (by decide +kernel)
theorem q200 : (Jvm.Cond.fieldLink "PactClocks" (10 : Nat) "PactClocks" "terms" "LPactClocks$Terms;") ∈ lw_all := mt1 118 (by decide +kernel) (by decide +kernel)
theorem q201 : (Jvm.Cond.fieldLink "PactClocks" (59 : Nat) "PactClocks$Terms" "count" "I") ∈ lw_all := mt1 62 (by decide +kernel) (by decide +kernel)
theorem q202 : (Jvm.Cond.initialized "PactClocks") ∈ lw_all := mt1 1 (by decide +kernel) (by decide +kernel)
theorem q203 : (Jvm.Cond.code ({ cls := "PactClocks", name := "requireWithin", desc := "(III)V" } : Jvm.MethodName) prog_1_method_35_code (3 : Nat) (Option.none : Option Jvm.ClassFile.FieldType)) ∈ lw_all := mt2 15 (by decide +kernel) (by decide +kernel)
theorem q204 : (Jvm.Cond.static ({ cls := "PactClocks", name := "requireWithin", desc := "(III)V" } : Jvm.MethodName)) ∈ lw_all := mt2 14 (by decide +kernel) (by decide +kernel)
theorem q205 : (Jvm.Cond.methodLink "PactClocks" (28 : Nat) ({ cls := "PactClocks", name := "requireWithin", desc := "(III)V" } : Jvm.MethodName)) ∈ lw_all := mt2 13 (by decide +kernel) (by decide +kernel)
theorem q206 : (Jvm.Cond.fieldLink "PactClocks" (21 : Nat) "PactClocks" "book" "LPactClocks$Book;") ∈ lw_all := mt1 119 (by decide +kernel) (by decide +kernel)
theorem q207 : (Jvm.Cond.fieldLink "PactClocks" (43 : Nat) "PactClocks$Book" "purses" "[I") ∈ lw_all := mt1 96 (by decide +kernel) (by decide +kernel)
theorem q208 : (Jvm.Cond.code ({ cls := "PactClocks", name := "requireDuty", desc := "(I)V" } : Jvm.MethodName) prog_1_method_34_code (2 : Nat) (Option.none : Option Jvm.ClassFile.FieldType)) ∈ lw_all := mt2 120 (by decide +kernel) (by decide +kernel)
theorem q209 : (Jvm.Cond.instanceMethod ({ cls := "PactClocks", name := "requireDuty", desc := "(I)V" } : Jvm.MethodName)) ∈ lw_all := mt2 119 (by decide +kernel) (by decide +kernel)
theorem q210 : (Cond.selects "PactClocks" (⟨"PactClocks", "requireDuty", "(I)V"⟩ : MethodName) (⟨"PactClocks", "requireDuty", "(I)V"⟩ : MethodName)) ∈ lw_all := mt0 8 (by decide +kernel) (by decide +kernel)
theorem q211 : (Jvm.Cond.methodLink "PactClocks" (51 : Nat) ({ cls := "PactClocks", name := "requireDuty", desc := "(I)V" } : Jvm.MethodName)) ∈ lw_all := mt2 117 (by decide +kernel) (by decide +kernel)
theorem q212 : (Jvm.Cond.code ({ cls := "PactClocks$Book", name := "canBePaid", desc := "(I)Z" } : Jvm.MethodName) prog_2_method_6_code (2 : Nat) (Option.some Jvm.ClassFile.FieldType.boolean)) ∈ lw_all := mt2 112 (by decide +kernel) (by decide +kernel)
theorem q213 : (Jvm.Cond.instanceMethod ({ cls := "PactClocks$Book", name := "canBePaid", desc := "(I)Z" } : Jvm.MethodName)) ∈ lw_all := mt2 110 (by decide +kernel) (by decide +kernel)
theorem q214 : (Jvm.Cond.selects "PactClocks$Book" ({ cls := "PactClocks$Book", name := "canBePaid", desc := "(I)Z" } : Jvm.MethodName) ({ cls := "PactClocks$Book", name := "canBePaid", desc := "(I)Z" } : Jvm.MethodName)) ∈ lw_all := mt2 111 (by decide +kernel) (by decide +kernel)
theorem q215 : (Jvm.Cond.methodLink "PactClocks" (77 : Nat) ({ cls := "PactClocks$Book", name := "canBePaid", desc := "(I)Z" } : Jvm.MethodName)) ∈ lw_all := mt2 109 (by decide +kernel) (by decide +kernel)
theorem q216 : (Jvm.Cond.methodLink "PactClocks" (82 : Nat) ({ cls := "PactClocks$Book", name := "price", desc := "(I)I" } : Jvm.MethodName)) ∈ lw_all := mt1 232 (by decide +kernel) (by decide +kernel)
theorem q217 : (Jvm.Cond.code ({ cls := "PactClocks$Book", name := "settle", desc := "(I)V" } : Jvm.MethodName) prog_2_method_10_code (3 : Nat) (Option.none : Option Jvm.ClassFile.FieldType)) ∈ lw_all := mt2 64 (by decide +kernel) (by decide +kernel)
theorem q218 : (Jvm.Cond.instanceMethod ({ cls := "PactClocks$Book", name := "settle", desc := "(I)V" } : Jvm.MethodName)) ∈ lw_all := mt2 62 (by decide +kernel) (by decide +kernel)
theorem q219 : (Jvm.Cond.selects "PactClocks$Book" ({ cls := "PactClocks$Book", name := "settle", desc := "(I)V" } : Jvm.MethodName) ({ cls := "PactClocks$Book", name := "settle", desc := "(I)V" } : Jvm.MethodName)) ∈ lw_all := mt2 63 (by decide +kernel) (by decide +kernel)
theorem q220 : (Jvm.Cond.methodLink "PactClocks" (86 : Nat) ({ cls := "PactClocks$Book", name := "settle", desc := "(I)V" } : Jvm.MethodName)) ∈ lw_all := mt2 61 (by decide +kernel) (by decide +kernel)
theorem q221 : (Jvm.Cond.fieldLink "PactClocks" (89 : Nat) "PactClocks$Book" "states" "[I") ∈ lw_all := mt1 98 (by decide +kernel) (by decide +kernel)
theorem q222 : (Jvm.Cond.methodLink "PactClocks" (97 : Nat) ({ cls := "PactClocks$Book", name := "end", desc := "(II)V" } : Jvm.MethodName)) ∈ lw_all := mt3 200 (by decide +kernel) (by decide +kernel)
theorem q223 : (Jvm.Cond.methodLink "PactClocks" (101 : Nat) ({ cls := "PactClocks$Book", name := "releaseWaitingBehind", desc := "(I)I" } : Jvm.MethodName)) ∈ lw_all := mt3 201 (by decide +kernel) (by decide +kernel)
theorem q224 : (Jvm.Cond.methodLink "PactClocks" (92 : Nat) ({ cls := "PactClocks$Book", name := "isOpen", desc := "(I)Z" } : Jvm.MethodName)) ∈ lw_all := mt2 154 (by decide +kernel) (by decide +kernel)
theorem q225 : (Jvm.Cond.fieldLink "PactClocks" (106 : Nat) "PactClocks$Book" "stopped" "[I") ∈ lw_all := mt1 102 (by decide +kernel) (by decide +kernel)
theorem q226 : (Jvm.Cond.code ({ cls := "PactClocks", name := "requireParty", desc := "(I)V" } : Jvm.MethodName) prog_1_method_33_code (2 : Nat) (Option.none : Option Jvm.ClassFile.FieldType)) ∈ lw_all := mt1 161 (by decide +kernel) (by decide +kernel)
theorem q227 : (Jvm.Cond.instanceMethod ({ cls := "PactClocks", name := "requireParty", desc := "(I)V" } : Jvm.MethodName)) ∈ lw_all := mt1 160 (by decide +kernel) (by decide +kernel)
theorem q228 : (Cond.selects "PactClocks" (⟨"PactClocks", "requireParty", "(I)V"⟩ : MethodName) (⟨"PactClocks", "requireParty", "(I)V"⟩ : MethodName)) ∈ lw_all := mt0 0 (by decide +kernel) (by decide +kernel)
theorem q229 : (Jvm.Cond.methodLink "PactClocks" (47 : Nat) ({ cls := "PactClocks", name := "requireParty", desc := "(I)V" } : Jvm.MethodName)) ∈ lw_all := mt1 158 (by decide +kernel) (by decide +kernel)
theorem q230 : (Jvm.Cond.fieldLink "PactClocks" (109 : Nat) "PactClocks" "today" "I") ∈ lw_all := mt1 122 (by decide +kernel) (by decide +kernel)
theorem q231 : (Jvm.Cond.code ({ cls := "PactClocks$Book", name := "live", desc := "(I)I" } : Jvm.MethodName) prog_2_method_12_code (5 : Nat) (Option.some Jvm.ClassFile.FieldType.int)) ∈ lw_all := mt2 81 (by decide +kernel) (by decide +kernel)
theorem q232 : (Jvm.Cond.instanceMethod ({ cls := "PactClocks$Book", name := "live", desc := "(I)I" } : Jvm.MethodName)) ∈ lw_all := mt2 79 (by decide +kernel) (by decide +kernel)
theorem q233 : (Jvm.Cond.selects "PactClocks$Book" ({ cls := "PactClocks$Book", name := "live", desc := "(I)I" } : Jvm.MethodName) ({ cls := "PactClocks$Book", name := "live", desc := "(I)I" } : Jvm.MethodName)) ∈ lw_all := mt2 80 (by decide +kernel) (by decide +kernel)
theorem q234 : (Jvm.Cond.methodLink "PactClocks" (112 : Nat) ({ cls := "PactClocks$Book", name := "live", desc := "(I)I" } : Jvm.MethodName)) ∈ lw_all := mt2 78 (by decide +kernel) (by decide +kernel)
theorem q235 : (Jvm.Cond.fieldLink "PactClocks" (115 : Nat) "PactClocks$Book" "taken" "I") ∈ lw_all := mt1 104 (by decide +kernel) (by decide +kernel)
theorem q236 : (Jvm.Cond.fieldLink "PactClocks" (118 : Nat) "PactClocks$Book" "left" "[I") ∈ lw_all := mt1 100 (by decide +kernel) (by decide +kernel)
theorem q237 : (Jvm.Cond.initialized "PactClocks$Terms") ∈ lw_all := mt1 2 (by decide +kernel) (by decide +kernel)
theorem q238 : (Jvm.Cond.code ({ cls := "PactClocks$Terms", name := "hangsSomehowOn", desc := "(II)Z" } : Jvm.MethodName) prog_3_method_5_code (5 : Nat) (Option.some Jvm.ClassFile.FieldType.boolean)) ∈ lw_all := mt2 141 (by decide +kernel) (by decide +kernel)
theorem q239 : (Jvm.Cond.instanceMethod ({ cls := "PactClocks$Terms", name := "hangsSomehowOn", desc := "(II)Z" } : Jvm.MethodName)) ∈ lw_all := mt2 139 (by decide +kernel) (by decide +kernel)
theorem q240 : (Jvm.Cond.selects "PactClocks$Terms" ({ cls := "PactClocks$Terms", name := "hangsSomehowOn", desc := "(II)Z" } : Jvm.MethodName) ({ cls := "PactClocks$Terms", name := "hangsSomehowOn", desc := "(II)Z" } : Jvm.MethodName)) ∈ lw_all := mt2 140 (by decide +kernel) (by decide +kernel)
theorem q241 : (Jvm.Cond.methodLink "PactClocks" (121 : Nat) ({ cls := "PactClocks$Terms", name := "hangsSomehowOn", desc := "(II)Z" } : Jvm.MethodName)) ∈ lw_all := mt2 138 (by decide +kernel) (by decide +kernel)
theorem q242 : (Jvm.Cond.fieldLink "PactClocks" (125 : Nat) "PactClocks$Terms" "depth" "[I") ∈ lw_all := mt1 56 (by decide +kernel) (by decide +kernel)
theorem q243 : (Jvm.Cond.fieldLink "PactClocks" (128 : Nat) "PactClocks$Terms" "signs" "[I") ∈ lw_all := mt1 58 (by decide +kernel) (by decide +kernel)
theorem q244 : (Jvm.Cond.fieldLink "PactClocks" (131 : Nat) "PactClocks$Terms" "seal" "[I") ∈ lw_all := mt1 60 (by decide +kernel) (by decide +kernel)
theorem q245 : (Jvm.Cond.fieldLink "PactClocks" (134 : Nat) "PactClocks$Terms" "debtor" "[I") ∈ lw_all := mt1 40 (by decide +kernel) (by decide +kernel)
theorem q246 : (Jvm.Cond.fieldLink "PactClocks" (210 : Nat) "PactClocks$Terms" "creditor" "[I") ∈ lw_all := mt1 43 (by decide +kernel) (by decide +kernel)
theorem q247 : (Jvm.Cond.code ({ cls := "PactClocks", name := "owedBetween", desc := "(II)I" } : Jvm.MethodName) prog_1_method_31_code (5 : Nat) (Option.some Jvm.ClassFile.FieldType.int)) ∈ lw_all := mt2 45 (by decide +kernel) (by decide +kernel)
theorem q248 : (Jvm.Cond.instanceMethod ({ cls := "PactClocks", name := "owedBetween", desc := "(II)I" } : Jvm.MethodName)) ∈ lw_all := mt2 44 (by decide +kernel) (by decide +kernel)
theorem q249 : (Cond.selects "PactClocks" (⟨"PactClocks", "owedBetween", "(II)I"⟩ : MethodName) (⟨"PactClocks", "owedBetween", "(II)I"⟩ : MethodName)) ∈ lw_all := mt0 2 (by decide +kernel) (by decide +kernel)
theorem q250 : (Jvm.Cond.methodLink "PactClocks" (137 : Nat) ({ cls := "PactClocks", name := "owedBetween", desc := "(II)I" } : Jvm.MethodName)) ∈ lw_all := mt2 42 (by decide +kernel) (by decide +kernel)
theorem q251 : (Jvm.Cond.code ({ cls := "PactClocks", name := "owes", desc := "(I)I" } : Jvm.MethodName) prog_1_method_23_code (4 : Nat) (Option.some Jvm.ClassFile.FieldType.int)) ∈ lw_all := mt1 157 (by decide +kernel) (by decide +kernel)
theorem q252 : (Jvm.Cond.instanceMethod ({ cls := "PactClocks", name := "owes", desc := "(I)I" } : Jvm.MethodName)) ∈ lw_all := mt1 155 (by decide +kernel) (by decide +kernel)
theorem q253 : (Jvm.Cond.selects "PactClocks" ({ cls := "PactClocks", name := "owes", desc := "(I)I" } : Jvm.MethodName) ({ cls := "PactClocks", name := "owes", desc := "(I)I" } : Jvm.MethodName)) ∈ lw_all := mt1 156 (by decide +kernel) (by decide +kernel)
theorem q254 : (Jvm.Cond.methodLink "PactClocks" (141 : Nat) ({ cls := "PactClocks", name := "owes", desc := "(I)I" } : Jvm.MethodName)) ∈ lw_all := mt1 154 (by decide +kernel) (by decide +kernel)
theorem q255 : (Jvm.Cond.fieldLink "PactClocks" (144 : Nat) "PactClocks$Terms" "cure" "[I") ∈ lw_all := mt1 50 (by decide +kernel) (by decide +kernel)
theorem q256 : (Jvm.Cond.fieldLink "PactClocks" (25 : Nat) "PactClocks" "ahead" "LPactClocks$Book;") ∈ lw_all := mt1 120 (by decide +kernel) (by decide +kernel)
theorem q257 : (Jvm.Cond.code ({ cls := "PactClocks$Book", name := "copyFrom", desc := "(LPactClocks$Book;)V" } : Jvm.MethodName) prog_2_method_2_code (2 : Nat) (Option.none : Option Jvm.ClassFile.FieldType)) ∈ lw_all := mt2 57 (by decide +kernel) (by decide +kernel)
theorem q258 : (Jvm.Cond.instanceMethod ({ cls := "PactClocks$Book", name := "copyFrom", desc := "(LPactClocks$Book;)V" } : Jvm.MethodName)) ∈ lw_all := mt2 55 (by decide +kernel) (by decide +kernel)
theorem q259 : (Jvm.Cond.selects "PactClocks$Book" ({ cls := "PactClocks$Book", name := "copyFrom", desc := "(LPactClocks$Book;)V" } : Jvm.MethodName) ({ cls := "PactClocks$Book", name := "copyFrom", desc := "(LPactClocks$Book;)V" } : Jvm.MethodName)) ∈ lw_all := mt2 56 (by decide +kernel) (by decide +kernel)
theorem q260 : (Jvm.Cond.methodLink "PactClocks" (213 : Nat) ({ cls := "PactClocks$Book", name := "copyFrom", desc := "(LPactClocks$Book;)V" } : Jvm.MethodName)) ∈ lw_all := mt2 54 (by decide +kernel) (by decide +kernel)
theorem q261 : (Jvm.Cond.code ({ cls := "PactClocks", name := "coinsAhead", desc := "(III)I" } : Jvm.MethodName) prog_1_method_32_code (4 : Nat) (Option.some Jvm.ClassFile.FieldType.int)) ∈ lw_all := mt2 53 (by decide +kernel) (by decide +kernel)
theorem q262 : (Jvm.Cond.instanceMethod ({ cls := "PactClocks", name := "coinsAhead", desc := "(III)I" } : Jvm.MethodName)) ∈ lw_all := mt2 52 (by decide +kernel) (by decide +kernel)
theorem q263 : (Cond.selects "PactClocks" (⟨"PactClocks", "coinsAhead", "(III)I"⟩ : MethodName) (⟨"PactClocks", "coinsAhead", "(III)I"⟩ : MethodName)) ∈ lw_all := mt0 3 (by decide +kernel) (by decide +kernel)
theorem q264 : (Jvm.Cond.methodLink "PactClocks" (147 : Nat) ({ cls := "PactClocks", name := "coinsAhead", desc := "(III)I" } : Jvm.MethodName)) ∈ lw_all := mt2 50 (by decide +kernel) (by decide +kernel)
theorem q265 : (Jvm.Cond.constantLong "PactClocks" (151 : Nat) (2269 : Int64)) ∈ lw_all := mt2 4 (by decide +kernel) (by decide +kernel)
theorem q266 : (Jvm.Cond.constantLong "PactClocks" (153 : Nat) (31 : Int64)) ∈ lw_all := mt2 5 (by decide +kernel) (by decide +kernel)
theorem q267 : (Jvm.Cond.code ({ cls := "PactClocks", name := "day", desc := "()I" } : Jvm.MethodName) prog_1_method_9_code (1 : Nat) (Option.some Jvm.ClassFile.FieldType.int)) ∈ lw_all := mt1 137 (by decide +kernel) (by decide +kernel)
theorem q268 : (Jvm.Cond.instanceMethod ({ cls := "PactClocks", name := "day", desc := "()I" } : Jvm.MethodName)) ∈ lw_all := mt1 135 (by decide +kernel) (by decide +kernel)
theorem q269 : (Jvm.Cond.selects "PactClocks" ({ cls := "PactClocks", name := "day", desc := "()I" } : Jvm.MethodName) ({ cls := "PactClocks", name := "day", desc := "()I" } : Jvm.MethodName)) ∈ lw_all := mt1 136 (by decide +kernel) (by decide +kernel)
theorem q270 : (Jvm.Cond.methodLink "PactClocks" (155 : Nat) ({ cls := "PactClocks", name := "day", desc := "()I" } : Jvm.MethodName)) ∈ lw_all := mt2 6 (by decide +kernel) (by decide +kernel)
theorem q271 : (Jvm.Cond.code ({ cls := "PactClocks", name := "parties", desc := "()I" } : Jvm.MethodName) prog_1_method_10_code (1 : Nat) (Option.some Jvm.ClassFile.FieldType.int)) ∈ lw_all := mt1 141 (by decide +kernel) (by decide +kernel)
theorem q272 : (Jvm.Cond.instanceMethod ({ cls := "PactClocks", name := "parties", desc := "()I" } : Jvm.MethodName)) ∈ lw_all := mt1 139 (by decide +kernel) (by decide +kernel)
theorem q273 : (Jvm.Cond.selects "PactClocks" ({ cls := "PactClocks", name := "parties", desc := "()I" } : Jvm.MethodName) ({ cls := "PactClocks", name := "parties", desc := "()I" } : Jvm.MethodName)) ∈ lw_all := mt1 140 (by decide +kernel) (by decide +kernel)
theorem q274 : (Jvm.Cond.methodLink "PactClocks" (159 : Nat) ({ cls := "PactClocks", name := "parties", desc := "()I" } : Jvm.MethodName)) ∈ lw_all := mt2 7 (by decide +kernel) (by decide +kernel)
theorem q275 : (Jvm.Cond.code ({ cls := "PactClocks", name := "duties", desc := "()I" } : Jvm.MethodName) prog_1_method_11_code (1 : Nat) (Option.some Jvm.ClassFile.FieldType.int)) ∈ lw_all := mt1 145 (by decide +kernel) (by decide +kernel)
theorem q276 : (Jvm.Cond.instanceMethod ({ cls := "PactClocks", name := "duties", desc := "()I" } : Jvm.MethodName)) ∈ lw_all := mt1 143 (by decide +kernel) (by decide +kernel)
theorem q277 : (Jvm.Cond.selects "PactClocks" ({ cls := "PactClocks", name := "duties", desc := "()I" } : Jvm.MethodName) ({ cls := "PactClocks", name := "duties", desc := "()I" } : Jvm.MethodName)) ∈ lw_all := mt1 144 (by decide +kernel) (by decide +kernel)
theorem q278 : (Jvm.Cond.methodLink "PactClocks" (162 : Nat) ({ cls := "PactClocks", name := "duties", desc := "()I" } : Jvm.MethodName)) ∈ lw_all := mt2 8 (by decide +kernel) (by decide +kernel)
theorem q279 : (Jvm.Cond.code ({ cls := "PactClocks", name := "penalties", desc := "()I" } : Jvm.MethodName) prog_1_method_14_code (1 : Nat) (Option.some Jvm.ClassFile.FieldType.int)) ∈ lw_all := mt1 149 (by decide +kernel) (by decide +kernel)
theorem q280 : (Jvm.Cond.instanceMethod ({ cls := "PactClocks", name := "penalties", desc := "()I" } : Jvm.MethodName)) ∈ lw_all := mt1 147 (by decide +kernel) (by decide +kernel)
theorem q281 : (Jvm.Cond.selects "PactClocks" ({ cls := "PactClocks", name := "penalties", desc := "()I" } : Jvm.MethodName) ({ cls := "PactClocks", name := "penalties", desc := "()I" } : Jvm.MethodName)) ∈ lw_all := mt1 148 (by decide +kernel) (by decide +kernel)
theorem q282 : (Jvm.Cond.methodLink "PactClocks" (168 : Nat) ({ cls := "PactClocks", name := "penalties", desc := "()I" } : Jvm.MethodName)) ∈ lw_all := mt2 32 (by decide +kernel) (by decide +kernel)
theorem q283 : (Jvm.Cond.code ({ cls := "PactClocks", name := "weakest", desc := "()I" } : Jvm.MethodName) prog_1_method_25_code (5 : Nat) (Option.some Jvm.ClassFile.FieldType.int)) ∈ lw_all := mt1 153 (by decide +kernel) (by decide +kernel)
theorem q284 : (Jvm.Cond.instanceMethod ({ cls := "PactClocks", name := "weakest", desc := "()I" } : Jvm.MethodName)) ∈ lw_all := mt1 151 (by decide +kernel) (by decide +kernel)
theorem q285 : (Jvm.Cond.selects "PactClocks" ({ cls := "PactClocks", name := "weakest", desc := "()I" } : Jvm.MethodName) ({ cls := "PactClocks", name := "weakest", desc := "()I" } : Jvm.MethodName)) ∈ lw_all := mt1 152 (by decide +kernel) (by decide +kernel)
theorem q286 : (Jvm.Cond.methodLink "PactClocks" (171 : Nat) ({ cls := "PactClocks", name := "weakest", desc := "()I" } : Jvm.MethodName)) ∈ lw_all := mt2 33 (by decide +kernel) (by decide +kernel)
theorem q287 : (Jvm.Cond.code ({ cls := "PactClocks", name := "stateOf", desc := "(I)I" } : Jvm.MethodName) prog_1_method_15_code (2 : Nat) (Option.some Jvm.ClassFile.FieldType.int)) ∈ lw_all := mt2 116 (by decide +kernel) (by decide +kernel)
theorem q288 : (Jvm.Cond.instanceMethod ({ cls := "PactClocks", name := "stateOf", desc := "(I)I" } : Jvm.MethodName)) ∈ lw_all := mt2 114 (by decide +kernel) (by decide +kernel)
theorem q289 : (Jvm.Cond.selects "PactClocks" ({ cls := "PactClocks", name := "stateOf", desc := "(I)I" } : Jvm.MethodName) ({ cls := "PactClocks", name := "stateOf", desc := "(I)I" } : Jvm.MethodName)) ∈ lw_all := mt2 115 (by decide +kernel) (by decide +kernel)
theorem q290 : (Jvm.Cond.methodLink "PactClocks" (186 : Nat) ({ cls := "PactClocks", name := "stateOf", desc := "(I)I" } : Jvm.MethodName)) ∈ lw_all := mt2 113 (by decide +kernel) (by decide +kernel)
theorem q291 : (Jvm.Cond.code ({ cls := "PactClocks", name := "daysLeft", desc := "(I)I" } : Jvm.MethodName) prog_1_method_16_code (2 : Nat) (Option.some Jvm.ClassFile.FieldType.int)) ∈ lw_all := mt2 125 (by decide +kernel) (by decide +kernel)
theorem q292 : (Jvm.Cond.instanceMethod ({ cls := "PactClocks", name := "daysLeft", desc := "(I)I" } : Jvm.MethodName)) ∈ lw_all := mt2 123 (by decide +kernel) (by decide +kernel)
theorem q293 : (Jvm.Cond.selects "PactClocks" ({ cls := "PactClocks", name := "daysLeft", desc := "(I)I" } : Jvm.MethodName) ({ cls := "PactClocks", name := "daysLeft", desc := "(I)I" } : Jvm.MethodName)) ∈ lw_all := mt2 124 (by decide +kernel) (by decide +kernel)
theorem q294 : (Jvm.Cond.methodLink "PactClocks" (189 : Nat) ({ cls := "PactClocks", name := "daysLeft", desc := "(I)I" } : Jvm.MethodName)) ∈ lw_all := mt2 122 (by decide +kernel) (by decide +kernel)
theorem q295 : (Jvm.Cond.code ({ cls := "PactClocks", name := "stoppedFor", desc := "(I)I" } : Jvm.MethodName) prog_1_method_17_code (2 : Nat) (Option.some Jvm.ClassFile.FieldType.int)) ∈ lw_all := mt2 129 (by decide +kernel) (by decide +kernel)
theorem q296 : (Jvm.Cond.instanceMethod ({ cls := "PactClocks", name := "stoppedFor", desc := "(I)I" } : Jvm.MethodName)) ∈ lw_all := mt2 127 (by decide +kernel) (by decide +kernel)
theorem q297 : (Jvm.Cond.selects "PactClocks" ({ cls := "PactClocks", name := "stoppedFor", desc := "(I)I" } : Jvm.MethodName) ({ cls := "PactClocks", name := "stoppedFor", desc := "(I)I" } : Jvm.MethodName)) ∈ lw_all := mt2 128 (by decide +kernel) (by decide +kernel)
theorem q298 : (Jvm.Cond.methodLink "PactClocks" (192 : Nat) ({ cls := "PactClocks", name := "stoppedFor", desc := "(I)I" } : Jvm.MethodName)) ∈ lw_all := mt2 126 (by decide +kernel) (by decide +kernel)
theorem q299 : (Jvm.Cond.code ({ cls := "PactClocks", name := "priceOf", desc := "(I)I" } : Jvm.MethodName) prog_1_method_18_code (2 : Nat) (Option.some Jvm.ClassFile.FieldType.int)) ∈ lw_all := mt2 133 (by decide +kernel) (by decide +kernel)
theorem q300 : (Jvm.Cond.instanceMethod ({ cls := "PactClocks", name := "priceOf", desc := "(I)I" } : Jvm.MethodName)) ∈ lw_all := mt2 131 (by decide +kernel) (by decide +kernel)
theorem q301 : (Jvm.Cond.selects "PactClocks" ({ cls := "PactClocks", name := "priceOf", desc := "(I)I" } : Jvm.MethodName) ({ cls := "PactClocks", name := "priceOf", desc := "(I)I" } : Jvm.MethodName)) ∈ lw_all := mt2 132 (by decide +kernel) (by decide +kernel)
theorem q302 : (Jvm.Cond.methodLink "PactClocks" (195 : Nat) ({ cls := "PactClocks", name := "priceOf", desc := "(I)I" } : Jvm.MethodName)) ∈ lw_all := mt2 130 (by decide +kernel) (by decide +kernel)
theorem q303 : (Jvm.Cond.code ({ cls := "PactClocks", name := "hanging", desc := "(I)I" } : Jvm.MethodName) prog_1_method_19_code (4 : Nat) (Option.some Jvm.ClassFile.FieldType.int)) ∈ lw_all := mt2 137 (by decide +kernel) (by decide +kernel)
theorem q304 : (Jvm.Cond.instanceMethod ({ cls := "PactClocks", name := "hanging", desc := "(I)I" } : Jvm.MethodName)) ∈ lw_all := mt2 135 (by decide +kernel) (by decide +kernel)
theorem q305 : (Jvm.Cond.selects "PactClocks" ({ cls := "PactClocks", name := "hanging", desc := "(I)I" } : Jvm.MethodName) ({ cls := "PactClocks", name := "hanging", desc := "(I)I" } : Jvm.MethodName)) ∈ lw_all := mt2 136 (by decide +kernel) (by decide +kernel)
theorem q306 : (Jvm.Cond.methodLink "PactClocks" (198 : Nat) ({ cls := "PactClocks", name := "hanging", desc := "(I)I" } : Jvm.MethodName)) ∈ lw_all := mt2 134 (by decide +kernel) (by decide +kernel)
theorem q307 : (Jvm.Cond.code ({ cls := "PactClocks", name := "depthOf", desc := "(I)I" } : Jvm.MethodName) prog_1_method_20_code (2 : Nat) (Option.some Jvm.ClassFile.FieldType.int)) ∈ lw_all := mt2 145 (by decide +kernel) (by decide +kernel)
theorem q308 : (Jvm.Cond.instanceMethod ({ cls := "PactClocks", name := "depthOf", desc := "(I)I" } : Jvm.MethodName)) ∈ lw_all := mt2 143 (by decide +kernel) (by decide +kernel)
theorem q309 : (Jvm.Cond.selects "PactClocks" ({ cls := "PactClocks", name := "depthOf", desc := "(I)I" } : Jvm.MethodName) ({ cls := "PactClocks", name := "depthOf", desc := "(I)I" } : Jvm.MethodName)) ∈ lw_all := mt2 144 (by decide +kernel) (by decide +kernel)
theorem q310 : (Jvm.Cond.methodLink "PactClocks" (201 : Nat) ({ cls := "PactClocks", name := "depthOf", desc := "(I)I" } : Jvm.MethodName)) ∈ lw_all := mt2 142 (by decide +kernel) (by decide +kernel)
theorem q311 : (Jvm.Cond.code ({ cls := "PactClocks", name := "sealOf", desc := "(I)I" } : Jvm.MethodName) prog_1_method_22_code (2 : Nat) (Option.some Jvm.ClassFile.FieldType.int)) ∈ lw_all := mt2 149 (by decide +kernel) (by decide +kernel)
theorem q312 : (Jvm.Cond.instanceMethod ({ cls := "PactClocks", name := "sealOf", desc := "(I)I" } : Jvm.MethodName)) ∈ lw_all := mt2 147 (by decide +kernel) (by decide +kernel)
theorem q313 : (Jvm.Cond.selects "PactClocks" ({ cls := "PactClocks", name := "sealOf", desc := "(I)I" } : Jvm.MethodName) ({ cls := "PactClocks", name := "sealOf", desc := "(I)I" } : Jvm.MethodName)) ∈ lw_all := mt2 148 (by decide +kernel) (by decide +kernel)
theorem q314 : (Jvm.Cond.methodLink "PactClocks" (204 : Nat) ({ cls := "PactClocks", name := "sealOf", desc := "(I)I" } : Jvm.MethodName)) ∈ lw_all := mt2 146 (by decide +kernel) (by decide +kernel)
theorem q315 : (Jvm.Cond.code ({ cls := "PactClocks", name := "daysUntilFailed", desc := "(I)I" } : Jvm.MethodName) prog_1_method_26_code (3 : Nat) (Option.some Jvm.ClassFile.FieldType.int)) ∈ lw_all := mt2 153 (by decide +kernel) (by decide +kernel)
theorem q316 : (Jvm.Cond.instanceMethod ({ cls := "PactClocks", name := "daysUntilFailed", desc := "(I)I" } : Jvm.MethodName)) ∈ lw_all := mt2 151 (by decide +kernel) (by decide +kernel)
theorem q317 : (Jvm.Cond.selects "PactClocks" ({ cls := "PactClocks", name := "daysUntilFailed", desc := "(I)I" } : Jvm.MethodName) ({ cls := "PactClocks", name := "daysUntilFailed", desc := "(I)I" } : Jvm.MethodName)) ∈ lw_all := mt2 152 (by decide +kernel) (by decide +kernel)
theorem q318 : (Jvm.Cond.methodLink "PactClocks" (207 : Nat) ({ cls := "PactClocks", name := "daysUntilFailed", desc := "(I)I" } : Jvm.MethodName)) ∈ lw_all := mt2 150 (by decide +kernel) (by decide +kernel)
theorem q319 : (Jvm.Cond.code ({ cls := "PactClocks", name := "purseOf", desc := "(I)I" } : Jvm.MethodName) prog_1_method_13_code (2 : Nat) (Option.some Jvm.ClassFile.FieldType.int)) ∈ lw_all := mt2 37 (by decide +kernel) (by decide +kernel)
theorem q320 : (Jvm.Cond.instanceMethod ({ cls := "PactClocks", name := "purseOf", desc := "(I)I" } : Jvm.MethodName)) ∈ lw_all := mt2 35 (by decide +kernel) (by decide +kernel)
theorem q321 : (Jvm.Cond.selects "PactClocks" ({ cls := "PactClocks", name := "purseOf", desc := "(I)I" } : Jvm.MethodName) ({ cls := "PactClocks", name := "purseOf", desc := "(I)I" } : Jvm.MethodName)) ∈ lw_all := mt2 36 (by decide +kernel) (by decide +kernel)
theorem q322 : (Jvm.Cond.methodLink "PactClocks" (174 : Nat) ({ cls := "PactClocks", name := "purseOf", desc := "(I)I" } : Jvm.MethodName)) ∈ lw_all := mt2 34 (by decide +kernel) (by decide +kernel)
theorem q323 : (Jvm.Cond.code ({ cls := "PactClocks", name := "purseIn", desc := "(II)I" } : Jvm.MethodName) prog_1_method_27_code (3 : Nat) (Option.some Jvm.ClassFile.FieldType.int)) ∈ lw_all := mt2 49 (by decide +kernel) (by decide +kernel)
theorem q324 : (Jvm.Cond.instanceMethod ({ cls := "PactClocks", name := "purseIn", desc := "(II)I" } : Jvm.MethodName)) ∈ lw_all := mt2 47 (by decide +kernel) (by decide +kernel)
theorem q325 : (Jvm.Cond.selects "PactClocks" ({ cls := "PactClocks", name := "purseIn", desc := "(II)I" } : Jvm.MethodName) ({ cls := "PactClocks", name := "purseIn", desc := "(II)I" } : Jvm.MethodName)) ∈ lw_all := mt2 48 (by decide +kernel) (by decide +kernel)
theorem q326 : (Jvm.Cond.methodLink "PactClocks" (180 : Nat) ({ cls := "PactClocks", name := "purseIn", desc := "(II)I" } : Jvm.MethodName)) ∈ lw_all := mt2 46 (by decide +kernel) (by decide +kernel)
theorem q327 : (Jvm.Cond.code ({ cls := "PactClocks", name := "bestToPay", desc := "(I)I" } : Jvm.MethodName) prog_1_method_28_code (6 : Nat) (Option.some Jvm.ClassFile.FieldType.int)) ∈ lw_all := mt2 108 (by decide +kernel) (by decide +kernel)
theorem q328 : (Jvm.Cond.instanceMethod ({ cls := "PactClocks", name := "bestToPay", desc := "(I)I" } : Jvm.MethodName)) ∈ lw_all := mt2 106 (by decide +kernel) (by decide +kernel)
theorem q329 : (Jvm.Cond.selects "PactClocks" ({ cls := "PactClocks", name := "bestToPay", desc := "(I)I" } : Jvm.MethodName) ({ cls := "PactClocks", name := "bestToPay", desc := "(I)I" } : Jvm.MethodName)) ∈ lw_all := mt2 107 (by decide +kernel) (by decide +kernel)
theorem q330 : (Jvm.Cond.methodLink "PactClocks" (183 : Nat) ({ cls := "PactClocks", name := "bestToPay", desc := "(I)I" } : Jvm.MethodName)) ∈ lw_all := mt2 105 (by decide +kernel) (by decide +kernel)
theorem q331 : (Jvm.Cond.code ({ cls := "PactClocks", name := "balance", desc := "(II)I" } : Jvm.MethodName) prog_1_method_24_code (3 : Nat) (Option.some Jvm.ClassFile.FieldType.int)) ∈ lw_all := mt2 41 (by decide +kernel) (by decide +kernel)
theorem q332 : (Jvm.Cond.instanceMethod ({ cls := "PactClocks", name := "balance", desc := "(II)I" } : Jvm.MethodName)) ∈ lw_all := mt2 39 (by decide +kernel) (by decide +kernel)
theorem q333 : (Jvm.Cond.selects "PactClocks" ({ cls := "PactClocks", name := "balance", desc := "(II)I" } : Jvm.MethodName) ({ cls := "PactClocks", name := "balance", desc := "(II)I" } : Jvm.MethodName)) ∈ lw_all := mt2 40 (by decide +kernel) (by decide +kernel)
theorem q334 : (Jvm.Cond.methodLink "PactClocks" (177 : Nat) ({ cls := "PactClocks", name := "balance", desc := "(II)I" } : Jvm.MethodName)) ∈ lw_all := mt2 38 (by decide +kernel) (by decide +kernel)
theorem q335 : (Jvm.Cond.code ({ cls := "PactClocks", name := "inState", desc := "(I)I" } : Jvm.MethodName) prog_1_method_12_code (4 : Nat) (Option.some Jvm.ClassFile.FieldType.int)) ∈ lw_all := mt2 12 (by decide +kernel) (by decide +kernel)
theorem q336 : (Jvm.Cond.instanceMethod ({ cls := "PactClocks", name := "inState", desc := "(I)I" } : Jvm.MethodName)) ∈ lw_all := mt2 10 (by decide +kernel) (by decide +kernel)
theorem q337 : (Jvm.Cond.selects "PactClocks" ({ cls := "PactClocks", name := "inState", desc := "(I)I" } : Jvm.MethodName) ({ cls := "PactClocks", name := "inState", desc := "(I)I" } : Jvm.MethodName)) ∈ lw_all := mt2 11 (by decide +kernel) (by decide +kernel)
theorem q338 : (Jvm.Cond.methodLink "PactClocks" (165 : Nat) ({ cls := "PactClocks", name := "inState", desc := "(I)I" } : Jvm.MethodName)) ∈ lw_all := mt2 9 (by decide +kernel) (by decide +kernel)
theorem q339 : (Jvm.Cond.classLink "PactClocks" (54 : Nat) "java/lang/IllegalArgumentException") ∈ lw_all := mt2 16 (by decide +kernel) (by decide +kernel)
theorem q340 : (Jvm.Cond.initialized "java/lang/IllegalArgumentException") ∈ lw_all := mt1 12 (by decide +kernel) (by decide +kernel)
theorem q341 : (Jvm.Cond.classLink "PactClocks" (217 : Nat) "java/lang/IndexOutOfBoundsException") ∈ lw_all := mt1 162 (by decide +kernel) (by decide +kernel)
theorem q342 : (Jvm.Cond.initialized "java/lang/IndexOutOfBoundsException") ∈ lw_all := mt1 14 (by decide +kernel) (by decide +kernel)
theorem q343 : (Jvm.Cond.classLink "PactClocks" (36 : Nat) "java/lang/IllegalStateException") ∈ lw_all := mt2 164 (by decide +kernel) (by decide +kernel)
theorem q344 : (Jvm.Cond.initialized "java/lang/IllegalStateException") ∈ lw_all := mt1 13 (by decide +kernel) (by decide +kernel)
theorem f_X2_32 : zF RX2 "PactClocks" 32 6 3 5 RX2 TX2 := ⟨in_X2, rfl, by decide, q199, rfl⟩
theorem f_X2_10 : zF RX2 "PactClocks" 10 6 0 5 RX2 TX2 := ⟨in_X2, rfl, by decide, q200, rfl⟩
theorem f_X2_59 : zF RX2 "PactClocks$Terms" 59 5 10 11 RX1 TX1 := ⟨in_X1, rfl, by decide, q201, rfl⟩
theorem f_X2_21 : zF RX2 "PactClocks" 21 6 1 5 RX2 TX2 := ⟨in_X2, rfl, by decide, q206, rfl⟩
theorem f_X2_43 : zF RX2 "PactClocks$Book" 43 4 1 6 RX0 TX0 := ⟨in_X0, rfl, by decide, q207, rfl⟩
theorem f_X2_89 : zF RX2 "PactClocks$Book" 89 4 2 6 RX0 TX0 := ⟨in_X0, rfl, by decide, q221, rfl⟩
theorem f_X2_106 : zF RX2 "PactClocks$Book" 106 4 4 6 RX0 TX0 := ⟨in_X0, rfl, by decide, q225, rfl⟩
theorem f_X2_109 : zF RX2 "PactClocks" 109 6 4 5 RX2 TX2 := ⟨in_X2, rfl, by decide, q230, rfl⟩
theorem f_X2_115 : zF RX2 "PactClocks$Book" 115 4 5 6 RX0 TX0 := ⟨in_X0, rfl, by decide, q235, rfl⟩
theorem f_X2_118 : zF RX2 "PactClocks$Book" 118 4 3 6 RX0 TX0 := ⟨in_X0, rfl, by decide, q236, rfl⟩
theorem f_X2_125 : zF RX2 "PactClocks$Terms" 125 5 7 11 RX1 TX1 := ⟨in_X1, rfl, by decide, q242, rfl⟩
theorem f_X2_128 : zF RX2 "PactClocks$Terms" 128 5 8 11 RX1 TX1 := ⟨in_X1, rfl, by decide, q243, rfl⟩
theorem f_X2_131 : zF RX2 "PactClocks$Terms" 131 5 9 11 RX1 TX1 := ⟨in_X1, rfl, by decide, q244, rfl⟩
theorem f_X2_134 : zF RX2 "PactClocks$Terms" 134 5 0 11 RX1 TX1 := ⟨in_X1, rfl, by decide, q245, rfl⟩
theorem f_X2_210 : zF RX2 "PactClocks$Terms" 210 5 1 11 RX1 TX1 := ⟨in_X1, rfl, by decide, q246, rfl⟩
theorem f_X2_144 : zF RX2 "PactClocks$Terms" 144 5 4 11 RX1 TX1 := ⟨in_X1, rfl, by decide, q255, rfl⟩
theorem f_X2_25 : zF RX2 "PactClocks" 25 6 2 5 RX2 TX2 := ⟨in_X2, rfl, by decide, q256, rfl⟩
theorem v_X2_requireWithin : zSt yX2_requireWithin cX2_requireWithin 3 none 3 := ⟨q204, q202, q203, by decide +kernel, by decide +kernel, by decide +kernel⟩
theorem v_X2_requireDuty : zV yX2_requireDuty cX2_requireDuty 2 none 1 := ⟨q209, q210, q202, q208, by decide +kernel, by decide +kernel, by decide +kernel⟩
theorem v_X0_canBePaid : zV yX0_canBePaid cX0_canBePaid 2 (some .boolean) 1 := ⟨q213, q214, q4, q212, by decide +kernel, by decide +kernel, by decide +kernel⟩
theorem v_X0_settle : zV yX0_settle cX0_settle 3 none 1 := ⟨q218, q219, q4, q217, by decide +kernel, by decide +kernel, by decide +kernel⟩
theorem v_X2_requireParty : zV yX2_requireParty cX2_requireParty 2 none 1 := ⟨q227, q228, q202, q226, by decide +kernel, by decide +kernel, by decide +kernel⟩
theorem v_X0_live : zV yX0_live cX0_live 5 (some .int) 1 := ⟨q232, q233, q4, q231, by decide +kernel, by decide +kernel, by decide +kernel⟩
theorem v_X1_hangsSomehowOn : zV yX1_hangsSomehowOn cX1_hangsSomehowOn 5 (some .boolean) 2 := ⟨q239, q240, q237, q238, by decide +kernel, by decide +kernel, by decide +kernel⟩
theorem v_X2_owedBetween : zV yX2_owedBetween cX2_owedBetween 5 (some .int) 2 := ⟨q248, q249, q202, q247, by decide +kernel, by decide +kernel, by decide +kernel⟩
theorem v_X2_owes : zV yX2_owes cX2_owes 4 (some .int) 1 := ⟨q252, q253, q202, q251, by decide +kernel, by decide +kernel, by decide +kernel⟩
theorem v_X0_copyFrom : zV yX0_copyFrom cX0_copyFrom 2 none 1 := ⟨q258, q259, q4, q257, by decide +kernel, by decide +kernel, by decide +kernel⟩
theorem v_X2_coinsAhead : zV yX2_coinsAhead cX2_coinsAhead 4 (some .int) 3 := ⟨q262, q263, q202, q261, by decide +kernel, by decide +kernel, by decide +kernel⟩
theorem v_X2_day : zV yX2_day cX2_day 1 (some .int) 0 := ⟨q268, q269, q202, q267, by decide +kernel, by decide +kernel, by decide +kernel⟩
theorem v_X2_parties : zV yX2_parties cX2_parties 1 (some .int) 0 := ⟨q272, q273, q202, q271, by decide +kernel, by decide +kernel, by decide +kernel⟩
theorem v_X2_duties : zV yX2_duties cX2_duties 1 (some .int) 0 := ⟨q276, q277, q202, q275, by decide +kernel, by decide +kernel, by decide +kernel⟩
theorem v_X2_penalties : zV yX2_penalties cX2_penalties 1 (some .int) 0 := ⟨q280, q281, q202, q279, by decide +kernel, by decide +kernel, by decide +kernel⟩
theorem v_X2_weakest : zV yX2_weakest cX2_weakest 5 (some .int) 0 := ⟨q284, q285, q202, q283, by decide +kernel, by decide +kernel, by decide +kernel⟩
theorem v_X2_stateOf : zV yX2_stateOf cX2_stateOf 2 (some .int) 1 := ⟨q288, q289, q202, q287, by decide +kernel, by decide +kernel, by decide +kernel⟩
theorem v_X2_daysLeft : zV yX2_daysLeft cX2_daysLeft 2 (some .int) 1 := ⟨q292, q293, q202, q291, by decide +kernel, by decide +kernel, by decide +kernel⟩
theorem v_X2_stoppedFor : zV yX2_stoppedFor cX2_stoppedFor 2 (some .int) 1 := ⟨q296, q297, q202, q295, by decide +kernel, by decide +kernel, by decide +kernel⟩
theorem v_X2_priceOf : zV yX2_priceOf cX2_priceOf 2 (some .int) 1 := ⟨q300, q301, q202, q299, by decide +kernel, by decide +kernel, by decide +kernel⟩
theorem v_X2_hanging : zV yX2_hanging cX2_hanging 4 (some .int) 1 := ⟨q304, q305, q202, q303, by decide +kernel, by decide +kernel, by decide +kernel⟩
theorem v_X2_depthOf : zV yX2_depthOf cX2_depthOf 2 (some .int) 1 := ⟨q308, q309, q202, q307, by decide +kernel, by decide +kernel, by decide +kernel⟩
theorem v_X2_sealOf : zV yX2_sealOf cX2_sealOf 2 (some .int) 1 := ⟨q312, q313, q202, q311, by decide +kernel, by decide +kernel, by decide +kernel⟩
theorem v_X2_daysUntilFailed : zV yX2_daysUntilFailed cX2_daysUntilFailed 3 (some .int) 1 := ⟨q316, q317, q202, q315, by decide +kernel, by decide +kernel, by decide +kernel⟩
theorem v_X2_purseOf : zV yX2_purseOf cX2_purseOf 2 (some .int) 1 := ⟨q320, q321, q202, q319, by decide +kernel, by decide +kernel, by decide +kernel⟩
theorem v_X2_purseIn : zV yX2_purseIn cX2_purseIn 3 (some .int) 2 := ⟨q324, q325, q202, q323, by decide +kernel, by decide +kernel, by decide +kernel⟩
theorem v_X2_bestToPay : zV yX2_bestToPay cX2_bestToPay 6 (some .int) 1 := ⟨q328, q329, q202, q327, by decide +kernel, by decide +kernel, by decide +kernel⟩
theorem v_X2_balance : zV yX2_balance cX2_balance 3 (some .int) 2 := ⟨q332, q333, q202, q331, by decide +kernel, by decide +kernel, by decide +kernel⟩
theorem v_X2_inState : zV yX2_inState cX2_inState 4 (some .int) 1 := ⟨q336, q337, q202, q335, by decide +kernel, by decide +kernel, by decide +kernel⟩
theorem th_X2_224 : zTh RX2 "java/lang/IllegalArgumentException" "a number is too small or too great" 54 224 58 := z_th2 (List.mem_append_right _ (List.mem_append_right _ (List.mem_append_left _ (List.mem_of_getElem? (i := 25) (by decide +kernel))))) (by decide +kernel) q339 q340
theorem th_X2_219 : zTh RX2 "java/lang/IndexOutOfBoundsException" "there is no such party" 217 219 221 := z_th1 (List.mem_append_right _ (List.mem_append_left _ (List.mem_of_getElem? (i := 205) (by decide +kernel)))) (by decide +kernel) q341 q342
theorem th_X2_222 : zTh RX2 "java/lang/IndexOutOfBoundsException" "there is no such duty" 217 222 221 := z_th1 (List.mem_append_right _ (List.mem_append_right _ (List.mem_append_left _ (List.mem_of_getElem? (i := 121) (by decide +kernel))))) (by decide +kernel) q341 q342
theorem th_X2_38 : zTh RX2 "java/lang/IllegalStateException" "there are as many parties as there can be" 36 38 40 := z_th3 (List.mem_append_right _ (List.mem_append_right _ (List.mem_append_left _ (List.mem_of_getElem? (i := 173) (by decide +kernel))))) (by decide +kernel) q343 q344
theorem th_X2_80 : zTh RX2 "java/lang/IllegalStateException" "the duty has no price now, or its debtor has fewer coins" 36 80 40 := z_th3 (List.mem_append_right _ (List.mem_append_right _ (List.mem_append_right _ (List.mem_append_left _ (List.mem_of_getElem? (i := 191) (by decide +kernel)))))) (by decide +kernel) q343 q344
theorem th_X2_95 : zTh RX2 "java/lang/IllegalStateException" "the duty is paid, failed or released" 36 95 40 := z_th3 (List.mem_append_right _ (List.mem_append_right _ (List.mem_append_right _ (List.mem_append_left _ (List.mem_of_getElem? (i := 199) (by decide +kernel)))))) (by decide +kernel) q343 q344
theorem th_X2_104 : zTh RX2 "java/lang/IllegalStateException" "the duty neither runs nor is late" 36 104 40 := z_th3 (List.mem_append_right _ (List.mem_append_right _ (List.mem_append_right _ (List.mem_append_left _ (List.mem_of_getElem? (i := 209) (by decide +kernel)))))) (by decide +kernel) q343 q344
def wpX2_requireWithin_b10 (post : Prop) (px : String → Prop) (p0 : Int32) (p1 : Int32) (p2 : Int32) : Prop := px "java/lang/IllegalArgumentException"
def wpX2_requireWithin (post : Prop) (px : String → Prop) (p0 : Int32) (p1 : Int32) (p2 : Int32) : Prop := (p0 < p1 → wpX2_requireWithin_b10 post px p0 p1 p2 ) ∧ (¬ p0 < p1 → (p0 ≤ p2 → post) ∧ (¬ p0 ≤ p2 → wpX2_requireWithin_b10 post px p0 p1 p2 ))
set_option maxHeartbeats 4000000 in
set_option maxRecDepth 100000 in
theorem c_X2_requireWithin {l : Launch} (hfl : l.stackTraces = false) {s0 : State} (hs0 : zS s0) (D : va_G) (cI cB cJ : ClassId) (p0 : Int32) (p1 : Int32) (p2 : Int32) {post : Prop} (h : wpX2_requireWithin post (fun _ => False) p0 p1 p2) : zR s0 l D (zty cI cB cJ) yX2_requireWithin cX2_requireWithin 3 none 1 [.int p0, .int p1, .int p2] ([]) (fun _ : Unit => none) (fun _ : Unit => post) := by
  refine zR_intro (by decide +kernel) (Nat.le_of_ble_eq_true rfl) ?_
  intro p e s m below meth c C hP hG ls hl
  have C : zC D (zty cI cB cJ) p s m ([.int p0, .int p1, .int p2] : List Value).toArray meth c cX2_requireWithin RX2 none 3 := C
  have hx := C.1
  have hb := C.2.1
  have hts := C.2.2.1
  have hown := C.2.2.2.1
  have hml := C.2.2.2.2.2.1
  have hK := C.2.2.2.2.2.2.2
  have hl : lv_has ls 3 [(0, .int p0), (1, .int p1), (2, .int p2)] := hl
  have k10 : ∀ (ls : Array Slot), lv_has ls 3 [] → wpX2_requireWithin_b10 post (fun _ : String => False) p0 p1 p2 → W p l e (zr 1 0 0) s m ([.int p0, .int p1, .int p2] : List Value).toArray below meth c s.heap [] 0 0 (MQ below (zQr (fun _ : Unit => none) (fun _ : Unit => post)) ([.int p0, .int p1, .int p2] : List Value).toArray s 0 0 (fun _ => False)) (F0 m 10 ls []) := by
    intro ls hl h
    unfold wpX2_requireWithin_b10 at h
    exact (show False from h).elim
  unfold wpX2_requireWithin at h
  refine lv_iload_n hx hb dX2_requireWithin_0 rfl (lv_at hl 0 rfl) ?_
  refine lv_iload_n hx hb dX2_requireWithin_1 rfl (lv_at hl 1 rfl) ?_
  refine lv_icmp_lt (tgt := 10) hx hb dX2_requireWithin_2 (by decide) (fun c2 => ?_) (fun c2 => ?_)
  · have h := h.1 c2
    exact k10   _ (lv_sub hl [] rfl) h
  · have h := h.2 c2
    refine lv_iload_n hx hb dX2_requireWithin_5 rfl (lv_at hl 0 rfl) ?_
    refine lv_iload_n hx hb dX2_requireWithin_6 rfl (lv_at hl 2 rfl) ?_
    refine lv_icmp_le (tgt := 20) hx hb dX2_requireWithin_7 (by decide) (fun c7 => ?_) (fun c7 => ?_)
    · have h := h.1 c7
      exact zR_vret C () rfl h dX2_requireWithin_20
    · have h := h.2 c7
      exact k10   _ (lv_sub hl [] rfl) h
set_option maxHeartbeats 4000000 in
set_option maxRecDepth 100000 in
theorem x_X2_requireWithin {l : Launch} (hfl : l.stackTraces = false) {s0 : State} (hs0 : zS s0) (D : va_G) (cI cB cJ : ClassId) (p0 : Int32) (p1 : Int32) (p2 : Int32) {post : Prop} {px : String → Prop} (h : wpX2_requireWithin post px p0 p1 p2) : zX s0 l D (zty cI cB cJ) yX2_requireWithin cX2_requireWithin 3 none 6 1 6 [.int p0, .int p1, .int p2] ([]) (fun _ : Unit => none) (fun _ : Unit => post) (fun _ : Unit => []) px := by
  refine zX_intro (by decide +kernel) (Nat.le_of_ble_eq_true rfl) ?_
  intro p e s m below meth c A C hnt hA hG hP hD hS ls hl
  have C : zC D (zty cI cB cJ) p s m ([.int p0, .int p1, .int p2] : List Value).toArray meth c cX2_requireWithin RX2 none 3 := C
  have hx := C.1
  have hb := C.2.1
  have hts := C.2.2.1
  have hown := C.2.2.2.1
  have hml := C.2.2.2.2.2.1
  have hK := C.2.2.2.2.2.2.2
  have hl : lv_has ls 3 [(0, .int p0), (1, .int p1), (2, .int p2)] := hl
  have hP : va_P D vwCl ([]) s.heap := hP
  have hD : va_D A ([]) := hD
  have k10 : ∀ (H : Heap) (locs : List Loc), va_P D vwCl ([]) H → va_D A ([]) → va_S A s.heap H locs → ∀ (ls : Array Slot), lv_has ls 3 [] → wpX2_requireWithin_b10 post px p0 p1 p2 → W p l e (zr 6 1 6) s m ([.int p0, .int p1, .int p2] : List Value).toArray below meth c H locs 0 0 (vx_MQ below (zQ D (fun _ : Unit => none) (fun _ : Unit => post) (fun _ : Unit => []) A) (zXC D px ([]) A) ([.int p0, .int p1, .int p2] : List Value).toArray s 1 6 A) (F0 m 10 ls []) := by
    intro H locs hP hD hS ls hl h
    unfold wpX2_requireWithin_b10 at h
    exact z_throw hs0 hfl C hnt hG th_X2_224 hP hS hl.1 dX2_requireWithin_10 dX2_requireWithin_13 dX2_requireWithin_14 dX2_requireWithin_16 dX2_requireWithin_19 (Nat.le_of_ble_eq_true rfl) (Nat.le_of_ble_eq_true rfl) (Nat.le_of_ble_eq_true rfl) (Nat.le_of_ble_eq_true rfl) h (Nat.le_of_ble_eq_true rfl) (Nat.le_of_ble_eq_true rfl)
  unfold wpX2_requireWithin at h
  refine lv_iload_n hx hb dX2_requireWithin_0 rfl (lv_at hl 0 rfl) ?_
  refine lv_iload_n hx hb dX2_requireWithin_1 rfl (lv_at hl 1 rfl) ?_
  refine lv_icmp_lt (tgt := 10) hx hb dX2_requireWithin_2 (by decide) (fun c2 => ?_) (fun c2 => ?_)
  · have h := h.1 c2
    refine W.widen (k := 0) (n := 0) (Nat.le_of_ble_eq_true rfl) (Nat.le_of_ble_eq_true rfl) ?_
    exact k10   _ _ hP hD hS _ (lv_sub hl [] rfl) h
  · have h := h.2 c2
    refine lv_iload_n hx hb dX2_requireWithin_5 rfl (lv_at hl 0 rfl) ?_
    refine lv_iload_n hx hb dX2_requireWithin_6 rfl (lv_at hl 2 rfl) ?_
    refine lv_icmp_le (tgt := 20) hx hb dX2_requireWithin_7 (by decide) (fun c7 => ?_) (fun c7 => ?_)
    · have h := h.1 c7
      exact vx_ret (zW_vret C () rfl h hP hD hS (Nat.le_of_ble_eq_true rfl) (Nat.le_of_ble_eq_true rfl) dX2_requireWithin_20)
    · have h := h.2 c7
      refine W.widen (k := 0) (n := 0) (Nat.le_of_ble_eq_true rfl) (Nat.le_of_ble_eq_true rfl) ?_
      exact k10   _ _ hP hD hS _ (lv_sub hl [] rfl) h
def wpX2_requireParty_b12 (post : Prop) (px : String → Prop) (d : DS) (p0 : Int32) : Prop := px "java/lang/IndexOutOfBoundsException"
def wpX2_requireParty (post : Prop) (px : String → Prop) (d : DS) (p0 : Int32) : Prop := (p0 < 0 → wpX2_requireParty_b12 post px d p0 ) ∧ (¬ p0 < 0 → (p0 < d.2.2.2.1 → post) ∧ (¬ p0 < d.2.2.2.1 → wpX2_requireParty_b12 post px d p0 ))
set_option maxHeartbeats 4000000 in
set_option maxRecDepth 100000 in
theorem c_X2_requireParty {l : Launch} (hfl : l.stackTraces = false) {s0 : State} (hs0 : zS s0) (D : va_G) (cI cB cJ : ClassId) (dA : Nat → Nat) (bA : Nat → Nat) (aA : Nat → Nat) (tA : Nat → Nat) (d : DS) (p0 : Int32) {post : Prop} (h : wpX2_requireParty post (fun _ => False) d p0) : zR s0 l D (zty cI cB cJ) yX2_requireParty cX2_requireParty 2 none 1 [.ref (dA 0), .int p0] (wD cI dA bA aA tA d) (fun _ : Unit => none) (fun _ : Unit => post) := by
  refine zR_intro (by decide +kernel) (Nat.le_of_ble_eq_true rfl) ?_
  intro p e s m below meth c C hP hG ls hl
  have C : zC D (zty cI cB cJ) p s m ([.ref (dA 0), .int p0] : List Value).toArray meth c cX2_requireParty RX2 none 2 := C
  have hx := C.1
  have hb := C.2.1
  have hts := C.2.2.1
  have hown := C.2.2.2.1
  have hml := C.2.2.2.2.2.1
  have hK := C.2.2.2.2.2.2.2
  have hl : lv_has ls 2 [(0, .ref (dA 0)), (1, .int p0)] := hl
  have k12 : ∀ (ls : Array Slot), lv_has ls 2 [] → wpX2_requireParty_b12 post (fun _ : String => False) d p0 → W p l e (zr 1 0 0) s m ([.ref (dA 0), .int p0] : List Value).toArray below meth c s.heap [] 0 0 (MQ below (zQr (fun _ : Unit => none) (fun _ : Unit => post)) ([.ref (dA 0), .int p0] : List Value).toArray s 0 0 (fun _ => False)) (F0 m 12 ls []) := by
    intro ls hl h
    unfold wpX2_requireParty_b12 at h
    exact (show False from h).elim
  unfold wpX2_requireParty at h
  refine lv_iload_n hx hb dX2_requireParty_0 rfl (lv_at hl 1 rfl) ?_
  refine lv_if_lt (tgt := 12) hx hb dX2_requireParty_1 (by decide) (fun c1 => ?_) (fun c1 => ?_)
  · have h := h.1 c1
    exact k12   _ (lv_sub hl [] rfl) h
  · have h := h.2 c1
    refine lv_iload_n hx hb dX2_requireParty_4 rfl (lv_at hl 1 rfl) ?_
    refine lv_aload_n hx hb dX2_requireParty_5 rfl (lv_at hl 0 rfl) ?_
    refine z_get C f_X2_32 hP (q0 := 0) rfl rfl dX2_requireParty_6 ?_
    refine lv_icmp_lt (tgt := 22) hx hb dX2_requireParty_9 (by decide) (fun c9 => ?_) (fun c9 => ?_)
    · have h := h.1 c9
      exact zR_vret C () rfl h dX2_requireParty_22
    · have h := h.2 c9
      exact k12   _ (lv_sub hl [] rfl) h
set_option maxHeartbeats 4000000 in
set_option maxRecDepth 100000 in
theorem x_X2_requireParty {l : Launch} (hfl : l.stackTraces = false) {s0 : State} (hs0 : zS s0) (D : va_G) (cI cB cJ : ClassId) (dA : Nat → Nat) (bA : Nat → Nat) (aA : Nat → Nat) (tA : Nat → Nat) (d : DS) (p0 : Int32) {post : Prop} {px : String → Prop} (h : wpX2_requireParty post px d p0) : zX s0 l D (zty cI cB cJ) yX2_requireParty cX2_requireParty 2 none 6 1 6 [.ref (dA 0), .int p0] (wD cI dA bA aA tA d) (fun _ : Unit => none) (fun _ : Unit => post) (fun _ : Unit => wD cI dA bA aA tA d) px := by
  refine zX_intro (by decide +kernel) (Nat.le_of_ble_eq_true rfl) ?_
  intro p e s m below meth c A C hnt hA hG hP hD hS ls hl
  have C : zC D (zty cI cB cJ) p s m ([.ref (dA 0), .int p0] : List Value).toArray meth c cX2_requireParty RX2 none 2 := C
  have hx := C.1
  have hb := C.2.1
  have hts := C.2.2.1
  have hown := C.2.2.2.1
  have hml := C.2.2.2.2.2.1
  have hK := C.2.2.2.2.2.2.2
  have hl : lv_has ls 2 [(0, .ref (dA 0)), (1, .int p0)] := hl
  have hP : va_P D vwCl (wD cI dA bA aA tA d) s.heap := hP
  have hD : va_D A (wD cI dA bA aA tA d) := hD
  have k12 : ∀ (H : Heap) (locs : List Loc), va_P D vwCl (wD cI dA bA aA tA d) H → va_D A (wD cI dA bA aA tA d) → va_S A s.heap H locs → ∀ (ls : Array Slot), lv_has ls 2 [] → wpX2_requireParty_b12 post px d p0 → W p l e (zr 6 1 6) s m ([.ref (dA 0), .int p0] : List Value).toArray below meth c H locs 0 0 (vx_MQ below (zQ D (fun _ : Unit => none) (fun _ : Unit => post) (fun _ : Unit => wD cI dA bA aA tA d) A) (zXC D px (wD cI dA bA aA tA d) A) ([.ref (dA 0), .int p0] : List Value).toArray s 1 6 A) (F0 m 12 ls []) := by
    intro H locs hP hD hS ls hl h
    unfold wpX2_requireParty_b12 at h
    exact z_throw hs0 hfl C hnt hG th_X2_219 hP hS hl.1 dX2_requireParty_12 dX2_requireParty_15 dX2_requireParty_16 dX2_requireParty_18 dX2_requireParty_21 (Nat.le_of_ble_eq_true rfl) (Nat.le_of_ble_eq_true rfl) (Nat.le_of_ble_eq_true rfl) (Nat.le_of_ble_eq_true rfl) h (Nat.le_of_ble_eq_true rfl) (Nat.le_of_ble_eq_true rfl)
  unfold wpX2_requireParty at h
  refine lv_iload_n hx hb dX2_requireParty_0 rfl (lv_at hl 1 rfl) ?_
  refine lv_if_lt (tgt := 12) hx hb dX2_requireParty_1 (by decide) (fun c1 => ?_) (fun c1 => ?_)
  · have h := h.1 c1
    refine W.widen (k := 0) (n := 0) (Nat.le_of_ble_eq_true rfl) (Nat.le_of_ble_eq_true rfl) ?_
    exact k12   _ _ hP hD hS _ (lv_sub hl [] rfl) h
  · have h := h.2 c1
    refine lv_iload_n hx hb dX2_requireParty_4 rfl (lv_at hl 1 rfl) ?_
    refine lv_aload_n hx hb dX2_requireParty_5 rfl (lv_at hl 0 rfl) ?_
    refine z_get C f_X2_32 hP (q0 := 0) rfl rfl dX2_requireParty_6 ?_
    refine lv_icmp_lt (tgt := 22) hx hb dX2_requireParty_9 (by decide) (fun c9 => ?_) (fun c9 => ?_)
    · have h := h.1 c9
      exact vx_ret (zW_vret C () rfl h hP hD hS (Nat.le_of_ble_eq_true rfl) (Nat.le_of_ble_eq_true rfl) dX2_requireParty_22)
    · have h := h.2 c9
      refine W.widen (k := 0) (n := 0) (Nat.le_of_ble_eq_true rfl) (Nat.le_of_ble_eq_true rfl) ?_
      exact k12   _ _ hP hD hS _ (lv_sub hl [] rfl) h
def wpX2_requireDuty_b15 (post : Prop) (px : String → Prop) (d : DS) (p0 : Int32) : Prop := px "java/lang/IndexOutOfBoundsException"
def wpX2_requireDuty (post : Prop) (px : String → Prop) (d : DS) (p0 : Int32) : Prop := (p0 < 0 → wpX2_requireDuty_b15 post px d p0 ) ∧ (¬ p0 < 0 → (p0 < d.2.2.1.2.2.2.2.2.2.2.2.2.2 → post) ∧ (¬ p0 < d.2.2.1.2.2.2.2.2.2.2.2.2.2 → wpX2_requireDuty_b15 post px d p0 ))
set_option maxHeartbeats 4000000 in
set_option maxRecDepth 100000 in
theorem c_X2_requireDuty {l : Launch} (hfl : l.stackTraces = false) {s0 : State} (hs0 : zS s0) (D : va_G) (cI cB cJ : ClassId) (dA : Nat → Nat) (bA : Nat → Nat) (aA : Nat → Nat) (tA : Nat → Nat) (d : DS) (p0 : Int32) {post : Prop} (h : wpX2_requireDuty post (fun _ => False) d p0) : zR s0 l D (zty cI cB cJ) yX2_requireDuty cX2_requireDuty 2 none 1 [.ref (dA 0), .int p0] (wD cI dA bA aA tA d) (fun _ : Unit => none) (fun _ : Unit => post) := by
  refine zR_intro (by decide +kernel) (Nat.le_of_ble_eq_true rfl) ?_
  intro p e s m below meth c C hP hG ls hl
  have C : zC D (zty cI cB cJ) p s m ([.ref (dA 0), .int p0] : List Value).toArray meth c cX2_requireDuty RX2 none 2 := C
  have hx := C.1
  have hb := C.2.1
  have hts := C.2.2.1
  have hown := C.2.2.2.1
  have hml := C.2.2.2.2.2.1
  have hK := C.2.2.2.2.2.2.2
  have hl : lv_has ls 2 [(0, .ref (dA 0)), (1, .int p0)] := hl
  have k15 : ∀ (ls : Array Slot), lv_has ls 2 [] → wpX2_requireDuty_b15 post (fun _ : String => False) d p0 → W p l e (zr 1 0 0) s m ([.ref (dA 0), .int p0] : List Value).toArray below meth c s.heap [] 0 0 (MQ below (zQr (fun _ : Unit => none) (fun _ : Unit => post)) ([.ref (dA 0), .int p0] : List Value).toArray s 0 0 (fun _ => False)) (F0 m 15 ls []) := by
    intro ls hl h
    unfold wpX2_requireDuty_b15 at h
    exact (show False from h).elim
  unfold wpX2_requireDuty at h
  refine lv_iload_n hx hb dX2_requireDuty_0 rfl (lv_at hl 1 rfl) ?_
  refine lv_if_lt (tgt := 15) hx hb dX2_requireDuty_1 (by decide) (fun c1 => ?_) (fun c1 => ?_)
  · have h := h.1 c1
    exact k15   _ (lv_sub hl [] rfl) h
  · have h := h.2 c1
    refine lv_iload_n hx hb dX2_requireDuty_4 rfl (lv_at hl 1 rfl) ?_
    refine lv_aload_n hx hb dX2_requireDuty_5 rfl (lv_at hl 0 rfl) ?_
    refine z_get C f_X2_10 hP (q0 := 0) rfl rfl dX2_requireDuty_6 ?_
    refine z_get C f_X2_59 hP (q0 := 11) rfl rfl dX2_requireDuty_9 ?_
    refine lv_icmp_lt (tgt := 25) hx hb dX2_requireDuty_12 (by decide) (fun c12 => ?_) (fun c12 => ?_)
    · have h := h.1 c12
      exact zR_vret C () rfl h dX2_requireDuty_25
    · have h := h.2 c12
      exact k15   _ (lv_sub hl [] rfl) h
set_option maxHeartbeats 4000000 in
set_option maxRecDepth 100000 in
theorem x_X2_requireDuty {l : Launch} (hfl : l.stackTraces = false) {s0 : State} (hs0 : zS s0) (D : va_G) (cI cB cJ : ClassId) (dA : Nat → Nat) (bA : Nat → Nat) (aA : Nat → Nat) (tA : Nat → Nat) (d : DS) (p0 : Int32) {post : Prop} {px : String → Prop} (h : wpX2_requireDuty post px d p0) : zX s0 l D (zty cI cB cJ) yX2_requireDuty cX2_requireDuty 2 none 6 1 6 [.ref (dA 0), .int p0] (wD cI dA bA aA tA d) (fun _ : Unit => none) (fun _ : Unit => post) (fun _ : Unit => wD cI dA bA aA tA d) px := by
  refine zX_intro (by decide +kernel) (Nat.le_of_ble_eq_true rfl) ?_
  intro p e s m below meth c A C hnt hA hG hP hD hS ls hl
  have C : zC D (zty cI cB cJ) p s m ([.ref (dA 0), .int p0] : List Value).toArray meth c cX2_requireDuty RX2 none 2 := C
  have hx := C.1
  have hb := C.2.1
  have hts := C.2.2.1
  have hown := C.2.2.2.1
  have hml := C.2.2.2.2.2.1
  have hK := C.2.2.2.2.2.2.2
  have hl : lv_has ls 2 [(0, .ref (dA 0)), (1, .int p0)] := hl
  have hP : va_P D vwCl (wD cI dA bA aA tA d) s.heap := hP
  have hD : va_D A (wD cI dA bA aA tA d) := hD
  have k15 : ∀ (H : Heap) (locs : List Loc), va_P D vwCl (wD cI dA bA aA tA d) H → va_D A (wD cI dA bA aA tA d) → va_S A s.heap H locs → ∀ (ls : Array Slot), lv_has ls 2 [] → wpX2_requireDuty_b15 post px d p0 → W p l e (zr 6 1 6) s m ([.ref (dA 0), .int p0] : List Value).toArray below meth c H locs 0 0 (vx_MQ below (zQ D (fun _ : Unit => none) (fun _ : Unit => post) (fun _ : Unit => wD cI dA bA aA tA d) A) (zXC D px (wD cI dA bA aA tA d) A) ([.ref (dA 0), .int p0] : List Value).toArray s 1 6 A) (F0 m 15 ls []) := by
    intro H locs hP hD hS ls hl h
    unfold wpX2_requireDuty_b15 at h
    exact z_throw hs0 hfl C hnt hG th_X2_222 hP hS hl.1 dX2_requireDuty_15 dX2_requireDuty_18 dX2_requireDuty_19 dX2_requireDuty_21 dX2_requireDuty_24 (Nat.le_of_ble_eq_true rfl) (Nat.le_of_ble_eq_true rfl) (Nat.le_of_ble_eq_true rfl) (Nat.le_of_ble_eq_true rfl) h (Nat.le_of_ble_eq_true rfl) (Nat.le_of_ble_eq_true rfl)
  unfold wpX2_requireDuty at h
  refine lv_iload_n hx hb dX2_requireDuty_0 rfl (lv_at hl 1 rfl) ?_
  refine lv_if_lt (tgt := 15) hx hb dX2_requireDuty_1 (by decide) (fun c1 => ?_) (fun c1 => ?_)
  · have h := h.1 c1
    refine W.widen (k := 0) (n := 0) (Nat.le_of_ble_eq_true rfl) (Nat.le_of_ble_eq_true rfl) ?_
    exact k15   _ _ hP hD hS _ (lv_sub hl [] rfl) h
  · have h := h.2 c1
    refine lv_iload_n hx hb dX2_requireDuty_4 rfl (lv_at hl 1 rfl) ?_
    refine lv_aload_n hx hb dX2_requireDuty_5 rfl (lv_at hl 0 rfl) ?_
    refine z_get C f_X2_10 hP (q0 := 0) rfl rfl dX2_requireDuty_6 ?_
    refine z_get C f_X2_59 hP (q0 := 11) rfl rfl dX2_requireDuty_9 ?_
    refine lv_icmp_lt (tgt := 25) hx hb dX2_requireDuty_12 (by decide) (fun c12 => ?_) (fun c12 => ?_)
    · have h := h.1 c12
      exact vx_ret (zW_vret C () rfl h hP hD hS (Nat.le_of_ble_eq_true rfl) (Nat.le_of_ble_eq_true rfl) dX2_requireDuty_25)
    · have h := h.2 c12
      refine W.widen (k := 0) (n := 0) (Nat.le_of_ble_eq_true rfl) (Nat.le_of_ble_eq_true rfl) ?_
      exact k15   _ _ hP hD hS _ (lv_sub hl [] rfl) h
def wpX2_addParty (post : Int32 → DS → Prop) (px : String → Prop) (d : DS) (p0 : Int32) : Prop := wpX2_requireWithin ((d.2.2.2.1 < 6 → vp_in d.2.2.2.1 6 ∧ (post d.2.2.2.1 (((upd d.1.1 d.2.2.2.1.toNatClampNeg p0), d.1.2.1, d.1.2.2.1, d.1.2.2.2.1, d.1.2.2.2.2), d.2.1, d.2.2.1, (d.2.2.2.1 + 1), d.2.2.2.2))) ∧ (¬ d.2.2.2.1 < 6 → px "java/lang/IllegalStateException")) px p0 0 500
set_option maxHeartbeats 4000000 in
set_option maxRecDepth 100000 in
theorem x_X2_addParty {l : Launch} (hfl : l.stackTraces = false) {s0 : State} (hs0 : zS s0) (D : va_G) (cI cB cJ : ClassId) (dA : Nat → Nat) (bA : Nat → Nat) (aA : Nat → Nat) (tA : Nat → Nat) (d : DS) (p0 : Int32) {post : Int32 → DS → Prop} {px : String → Prop} (h : wpX2_addParty post px d p0) : zX s0 l D (zty cI cB cJ) yX2_addParty cX2_addParty 3 (some .int) 7 2 12 [.ref (dA 0), .int p0] (wD cI dA bA aA tA d) (fun u : Int32 × DS => some (Value.int u.1)) (fun u : Int32 × DS => post u.1 u.2) (fun u : Int32 × DS => wD cI dA bA aA tA u.2) px := by
  refine zX_intro (by decide +kernel) (Nat.le_of_ble_eq_true rfl) ?_
  intro p e s m below meth c A C hnt hA hG hP hD hS ls hl
  have C : zC D (zty cI cB cJ) p s m ([.ref (dA 0), .int p0] : List Value).toArray meth c cX2_addParty RX2 (some .int) 3 := C
  have hx := C.1
  have hb := C.2.1
  have hts := C.2.2.1
  have hown := C.2.2.2.1
  have hml := C.2.2.2.2.2.1
  have hK := C.2.2.2.2.2.2.2
  have hl : lv_has ls 3 [(0, .ref (dA 0)), (1, .int p0)] := hl
  have hP : va_P D vwCl (wD cI dA bA aA tA d) s.heap := hP
  have hD : va_D A (wD cI dA bA aA tA d) := hD
  unfold wpX2_addParty at h
  refine lv_iload_n hx hb dX2_addParty_0 rfl (lv_at hl 1 rfl) ?_
  refine lv_iconst (v := 0) hx hb dX2_addParty_1 (by decide) ?_
  refine lv_sipush (v := 500) hx hb dX2_addParty_2 (by decide) ?_
  refine z_XS (As := [.int p0, .int 0, .int 500]) (rest := []) (wr := (List.filterMap (fun i => (wD cI dA bA aA tA d)[i]?) [0, 1, 2, 3, 4, 5, 6, 7, 8, 9, 10, 11, 12, 13, 14, 15, 16, 17, 18, 19, 20, 21])) (wN := (fun _ : Unit => wD cI dA bA aA tA d)) [] [0, 1, 2, 3, 4, 5, 6, 7, 8, 9, 10, 11, 12, 13, 14, 15, 16, 17, 18, 19, 20, 21] [0, 1, 2, 3, 4, 5, 6, 7, 8, 9, 10, 11, 12, 13, 14, 15, 16, 17, 18, 19, 20, 21] [0, 1, 2, 3, 4, 5, 6, 7, 8, 9, 10, 11, 12, 13, 14, 15, 16, 17, 18, 19, 20, 21] C hG hA hP hD hS (x_X2_requireWithin hfl hs0 D cI cB cJ p0 0 500 h) q205 v_X2_requireWithin rfl rfl ⟨by decide, by decide, by decide⟩ (by decide) (fun _ => rfl) rfl rfl ⟨(Nat.le_of_ble_eq_true rfl), (Nat.le_of_ble_eq_true rfl)⟩ ⟨(Nat.le_of_ble_eq_true rfl), (Nat.le_of_ble_eq_true rfl)⟩ hl.1 rfl (lv_room (Nat.le_of_ble_eq_true rfl)) dX2_addParty_5 (fun E ce q9 H locs hE hP hS hce hcv hcl => zX_out C hnt hE hP hS hce hcv hcl (Nat.le_of_ble_eq_true rfl) (Nat.le_of_ble_eq_true rfl)) (fun _ H locs h hP hD hS => ?_)
  have hP : va_P D vwCl (wD cI dA bA aA tA d) H := hP
  have hD : va_D A (wD cI dA bA aA tA d) := hD
  refine lv_aload_n hx hb dX2_addParty_8 rfl (lv_at hl 0 rfl) ?_
  refine z_get C f_X2_32 hP (q0 := 0) rfl rfl dX2_addParty_9 ?_
  refine lv_bipush (v := 6) hx hb dX2_addParty_12 (by decide) ?_
  refine lv_icmp_lt (tgt := 27) hx hb dX2_addParty_14 (by decide) (fun c14 => ?_) (fun c14 => ?_)
  · have h := h.1 c14
    refine lv_aload_n hx hb dX2_addParty_27 rfl (lv_at hl 0 rfl) ?_
    refine z_get C f_X2_32 hP (q0 := 0) rfl rfl dX2_addParty_28 ?_
    refine lv_istore_n (lv' := [(2, .int d.2.2.2.1), (0, .ref (dA 0)), (1, .int p0)]) hx hb dX2_addParty_31 rfl hl (by decide) rfl (fun ls hl => ?_)
    refine lv_aload_n hx hb dX2_addParty_32 rfl (lv_at hl 1 rfl) ?_
    refine z_get C f_X2_21 hP (q0 := 0) rfl rfl dX2_addParty_33 ?_
    refine z_get C f_X2_43 hP (q0 := 1) rfl rfl dX2_addParty_36 ?_
    refine lv_iload_n hx hb dX2_addParty_39 rfl (lv_at hl 0 rfl) ?_
    refine lv_iload_n hx hb dX2_addParty_40 rfl (lv_at hl 2 rfl) ?_
    obtain ⟨g9, h⟩ := h
    refine va_iast hx hb hK hP hD hS 2 0 rfl rfl g9 dX2_addParty_41 (fun H locs hP hD hS => ?_)
    have hP : va_P D vwCl (wD cI dA bA aA tA (((upd d.1.1 d.2.2.2.1.toNatClampNeg p0), d.1.2.1, d.1.2.2.1, d.1.2.2.2.1, d.1.2.2.2.2), d.2.1, d.2.2.1, d.2.2.2.1, d.2.2.2.2)) H := hP
    have hD : va_D A (wD cI dA bA aA tA (((upd d.1.1 d.2.2.2.1.toNatClampNeg p0), d.1.2.1, d.1.2.2.1, d.1.2.2.2.1, d.1.2.2.2.2), d.2.1, d.2.2.1, d.2.2.2.1, d.2.2.2.2)) := hD
    refine lv_aload_n hx hb dX2_addParty_42 rfl (lv_at hl 1 rfl) ?_
    refine lv_dup hx hb dX2_addParty_43 rfl ?_
    refine z_get C f_X2_32 hP (q0 := 0) rfl rfl dX2_addParty_44 ?_
    refine lv_iconst (v := 1) hx hb dX2_addParty_47 (by decide) ?_
    refine lv_iadd hx hb dX2_addParty_48 ?_
    refine z_put C f_X2_32 zt_X2 rfl rfl rfl rfl hP hD hS (q0 := 0) rfl (Nat.le_of_ble_eq_true rfl) dX2_addParty_49 (fun H locs hP hD hS => ?_)
    have hP : va_P D vwCl (wD cI dA bA aA tA (((upd d.1.1 d.2.2.2.1.toNatClampNeg p0), d.1.2.1, d.1.2.2.1, d.1.2.2.2.1, d.1.2.2.2.2), d.2.1, d.2.2.1, (d.2.2.2.1 + 1), d.2.2.2.2)) H := hP
    have hD : va_D A (wD cI dA bA aA tA (((upd d.1.1 d.2.2.2.1.toNatClampNeg p0), d.1.2.1, d.1.2.2.1, d.1.2.2.2.1, d.1.2.2.2.2), d.2.1, d.2.2.1, (d.2.2.2.1 + 1), d.2.2.2.2)) := hD
    refine lv_iload_n hx hb dX2_addParty_52 rfl (lv_at hl 0 rfl) ?_
    exact vx_ret (zW_iret C (d.2.2.2.1, (((upd d.1.1 d.2.2.2.1.toNatClampNeg p0), d.1.2.1, d.1.2.2.1, d.1.2.2.2.1, d.1.2.2.2.2), d.2.1, d.2.2.1, (d.2.2.2.1 + 1), d.2.2.2.2)) rfl h hP hD hS (Nat.le_of_ble_eq_true rfl) (Nat.le_of_ble_eq_true rfl) dX2_addParty_53)
  · have h := h.2 c14
    exact z_throw hs0 hfl C hnt hG th_X2_38 hP hS hl.1 dX2_addParty_17 dX2_addParty_20 dX2_addParty_21 dX2_addParty_23 dX2_addParty_26 (Nat.le_of_ble_eq_true rfl) (Nat.le_of_ble_eq_true rfl) (Nat.le_of_ble_eq_true rfl) (Nat.le_of_ble_eq_true rfl) h (Nat.le_of_ble_eq_true rfl) (Nat.le_of_ble_eq_true rfl)
def wpX2_pay (post : Int32 → DS → Prop) (px : String → Prop) (d : DS) (p0 : Int32) : Prop := wpX2_requireDuty (wpX0_canBePaid (fun r10 => (r10 = 0 → px "java/lang/IllegalStateException") ∧ (¬ r10 = 0 → wpX0_price (fun r31 => wpX0_settle (fun b40 => post r31 (b40, d.2.1, d.2.2.1, d.2.2.2.1, d.2.2.2.2)) d.2.2.1 d.1 p0) d.2.2.1 d.1 p0)) d.2.2.1 d.1 p0) px d p0
set_option maxHeartbeats 4000000 in
set_option maxRecDepth 100000 in
theorem x_X2_pay {l : Launch} (hfl : l.stackTraces = false) {s0 : State} (hs0 : zS s0) (D : va_G) (cI cB cJ : ClassId) (dA : Nat → Nat) (bA : Nat → Nat) (aA : Nat → Nat) (tA : Nat → Nat) (d : DS) (p0 : Int32) {post : Int32 → DS → Prop} {px : String → Prop} (h : wpX2_pay post px d p0) : zX s0 l D (zty cI cB cJ) yX2_pay cX2_pay 3 (some .int) 7 2 12 [.ref (dA 0), .int p0] (wD cI dA bA aA tA d) (fun u : Int32 × DS => some (Value.int u.1)) (fun u : Int32 × DS => post u.1 u.2) (fun u : Int32 × DS => wD cI dA bA aA tA u.2) px := by
  refine zX_intro (by decide +kernel) (Nat.le_of_ble_eq_true rfl) ?_
  intro p e s m below meth c A C hnt hA hG hP hD hS ls hl
  have C : zC D (zty cI cB cJ) p s m ([.ref (dA 0), .int p0] : List Value).toArray meth c cX2_pay RX2 (some .int) 3 := C
  have hx := C.1
  have hb := C.2.1
  have hts := C.2.2.1
  have hown := C.2.2.2.1
  have hml := C.2.2.2.2.2.1
  have hK := C.2.2.2.2.2.2.2
  have hl : lv_has ls 3 [(0, .ref (dA 0)), (1, .int p0)] := hl
  have hP : va_P D vwCl (wD cI dA bA aA tA d) s.heap := hP
  have hD : va_D A (wD cI dA bA aA tA d) := hD
  unfold wpX2_pay at h
  refine lv_aload_n hx hb dX2_pay_0 rfl (lv_at hl 0 rfl) ?_
  refine lv_iload_n hx hb dX2_pay_1 rfl (lv_at hl 1 rfl) ?_
  refine z_XV (As := [.int p0]) (rest := []) (wr := ([] : va_W)) (wN := (fun _ : Unit => wD cI dA bA aA tA d)) [0, 1, 2, 3, 4, 5, 6, 7, 8, 9, 10, 11, 12, 13, 14, 15, 16, 17, 18, 19, 20, 21] [] [0, 1, 2, 3, 4, 5, 6, 7, 8, 9, 10, 11, 12, 13, 14, 15, 16, 17, 18, 19, 20, 21] [0, 1, 2, 3, 4, 5, 6, 7, 8, 9, 10, 11, 12, 13, 14, 15, 16, 17, 18, 19, 20, 21] C hG hA hP hD hS (x_X2_requireDuty hfl hs0 D cI cB cJ dA bA aA tA d p0 h) q211 v_X2_requireDuty rfl rfl ⟨by decide, by decide, by decide⟩ (by decide) (fun _ => rfl) rfl rfl rfl rfl ⟨(Nat.le_of_ble_eq_true rfl), (Nat.le_of_ble_eq_true rfl)⟩ ⟨(Nat.le_of_ble_eq_true rfl), (Nat.le_of_ble_eq_true rfl)⟩ hl.1 rfl (lv_room (Nat.le_of_ble_eq_true rfl)) dX2_pay_2 (fun E ce q9 H locs hE hP hS hce hcv hcl => zX_out C hnt hE hP hS hce hcv hcl (Nat.le_of_ble_eq_true rfl) (Nat.le_of_ble_eq_true rfl)) (fun _ H locs h hP hD hS => ?_)
  have hP : va_P D vwCl (wD cI dA bA aA tA d) H := hP
  have hD : va_D A (wD cI dA bA aA tA d) := hD
  refine lv_aload_n hx hb dX2_pay_5 rfl (lv_at hl 0 rfl) ?_
  refine z_get C f_X2_21 hP (q0 := 0) rfl rfl dX2_pay_6 ?_
  refine lv_iload_n hx hb dX2_pay_9 rfl (lv_at hl 1 rfl) ?_
  refine z_RV (As := [.int p0]) (rest := []) [1, 2, 3, 4, 5, 11, 12, 13, 14, 15, 16, 17, 18, 19, 20, 21] C (hG.kept hS.1 hS.2.1).none hP (c_X0_canBePaid hfl hs0 D cI cB cJ bA tA d.2.2.1 d.1 p0 h) q215 v_X0_canBePaid rfl rfl rfl rfl ⟨(Nat.le_of_ble_eq_true rfl), (Nat.le_of_ble_eq_true rfl)⟩ ⟨(Nat.le_of_ble_eq_true rfl), (Nat.le_of_ble_eq_true rfl)⟩ hl.1 rfl (lv_room (Nat.le_of_ble_eq_true rfl)) dX2_pay_10 (fun r10 h => ?_)
  refine lv_if_ne (tgt := 26) hx hb dX2_pay_13 (by decide) (fun c13 => ?_) (fun c13 => ?_)
  · have h := h.2 c13
    refine lv_aload_n hx hb dX2_pay_26 rfl (lv_at hl 0 rfl) ?_
    refine z_get C f_X2_21 hP (q0 := 0) rfl rfl dX2_pay_27 ?_
    refine lv_iload_n hx hb dX2_pay_30 rfl (lv_at hl 1 rfl) ?_
    refine z_RV (As := [.int p0]) (rest := []) [1, 2, 3, 4, 5, 11, 12, 13, 14, 15, 16, 17, 18, 19, 20, 21] C (hG.kept hS.1 hS.2.1).none hP (c_X0_price hfl hs0 D cI cB cJ bA tA d.2.2.1 d.1 p0 h) q216 v_X0_price rfl rfl rfl rfl ⟨(Nat.le_of_ble_eq_true rfl), (Nat.le_of_ble_eq_true rfl)⟩ ⟨(Nat.le_of_ble_eq_true rfl), (Nat.le_of_ble_eq_true rfl)⟩ hl.1 rfl (lv_room (Nat.le_of_ble_eq_true rfl)) dX2_pay_31 (fun r31 h => ?_)
    refine lv_istore_n (lv' := [(2, .int r31), (0, .ref (dA 0)), (1, .int p0)]) hx hb dX2_pay_34 rfl hl (by decide) rfl (fun ls hl => ?_)
    refine lv_aload_n hx hb dX2_pay_35 rfl (lv_at hl 1 rfl) ?_
    refine z_get C f_X2_21 hP (q0 := 0) rfl rfl dX2_pay_36 ?_
    refine lv_iload_n hx hb dX2_pay_39 rfl (lv_at hl 2 rfl) ?_
    refine z_WV (As := [.int p0]) (rest := []) (wr := (List.filterMap (fun i => (wD cI dA bA aA tA d)[i]?) [0, 6, 7, 8, 9, 10])) (wN := (fun u : BS => wD cI dA bA aA tA (u, d.2.1, d.2.2.1, d.2.2.2.1, d.2.2.2.2))) [1, 2, 3, 4, 5, 11, 12, 13, 14, 15, 16, 17, 18, 19, 20, 21] [0, 6, 7, 8, 9, 10] [0, 6, 7, 8, 9, 10, 1, 2, 3, 4, 5, 11, 12, 13, 14, 15, 16, 17, 18, 19, 20, 21] C hG hA hP hD hS (c_X0_settle hfl hs0 D cI cB cJ bA tA d.2.2.1 d.1 p0 h) q220 v_X0_settle rfl rfl ⟨by decide, by decide, by decide⟩ (by decide) (fun _ => rfl) rfl rfl rfl ⟨(Nat.le_of_ble_eq_true rfl), (Nat.le_of_ble_eq_true rfl)⟩ ⟨(Nat.le_of_ble_eq_true rfl), (Nat.le_of_ble_eq_true rfl)⟩ hl.1 rfl (lv_room (Nat.le_of_ble_eq_true rfl)) dX2_pay_40 (fun u H locs h hP hD hS => ?_)
    obtain ⟨b40, rfl⟩ : ∃ z, z = u := ⟨_, rfl⟩
    have hP : va_P D vwCl (wD cI dA bA aA tA (b40, d.2.1, d.2.2.1, d.2.2.2.1, d.2.2.2.2)) H := hP
    have hD : va_D A (wD cI dA bA aA tA (b40, d.2.1, d.2.2.1, d.2.2.2.1, d.2.2.2.2)) := hD
    refine lv_iload_n hx hb dX2_pay_43 rfl (lv_at hl 0 rfl) ?_
    exact vx_ret (zW_iret C (r31, (b40, d.2.1, d.2.2.1, d.2.2.2.1, d.2.2.2.2)) rfl h hP hD hS (Nat.le_of_ble_eq_true rfl) (Nat.le_of_ble_eq_true rfl) dX2_pay_44)
  · have h := h.1 c13
    exact z_throw hs0 hfl C hnt hG th_X2_80 hP hS hl.1 dX2_pay_16 dX2_pay_19 dX2_pay_20 dX2_pay_22 dX2_pay_25 (Nat.le_of_ble_eq_true rfl) (Nat.le_of_ble_eq_true rfl) (Nat.le_of_ble_eq_true rfl) (Nat.le_of_ble_eq_true rfl) h (Nat.le_of_ble_eq_true rfl) (Nat.le_of_ble_eq_true rfl)
def wpX2_release_b38 (post : Int32 → DS → Prop) (px : String → Prop) (p0 : Int32) (d_ : DS) : Prop := wpX0_end (fun b44 => wpX0_releaseWaitingBehind (fun r53 b53 => post (1 + r53) (b53, d_.2.1, d_.2.2.1, d_.2.2.2.1, d_.2.2.2.2)) d_.2.2.1 b44 p0) d_.2.2.1 d_.1 p0 5
def wpX2_release (post : Int32 → DS → Prop) (px : String → Prop) (d : DS) (p0 : Int32) : Prop := wpX2_requireDuty (vp_in p0 20 ∧ (((d.1.2.1 p0.toNatClampNeg) = 0 → wpX2_release_b38 post px p0 d) ∧ (¬ (d.1.2.1 p0.toNatClampNeg) = 0 → wpX0_isOpen (fun r22 => (r22 = 0 → px "java/lang/IllegalStateException") ∧ (¬ r22 = 0 → wpX2_release_b38 post px p0 d)) d.2.2.1 d.1 p0))) px d p0
set_option maxHeartbeats 4000000 in
set_option maxRecDepth 100000 in
theorem x_X2_release {l : Launch} (hfl : l.stackTraces = false) {s0 : State} (hs0 : zS s0) (D : va_G) (cI cB cJ : ClassId) (dA : Nat → Nat) (bA : Nat → Nat) (aA : Nat → Nat) (tA : Nat → Nat) (d : DS) (p0 : Int32) {post : Int32 → DS → Prop} {px : String → Prop} (h : wpX2_release post px d p0) : zX s0 l D (zty cI cB cJ) yX2_release cX2_release 2 (some .int) 7 2 12 [.ref (dA 0), .int p0] (wD cI dA bA aA tA d) (fun u : Int32 × DS => some (Value.int u.1)) (fun u : Int32 × DS => post u.1 u.2) (fun u : Int32 × DS => wD cI dA bA aA tA u.2) px := by
  refine zX_intro (by decide +kernel) (Nat.le_of_ble_eq_true rfl) ?_
  intro p e s m below meth c A C hnt hA hG hP hD hS ls hl
  have C : zC D (zty cI cB cJ) p s m ([.ref (dA 0), .int p0] : List Value).toArray meth c cX2_release RX2 (some .int) 2 := C
  have hx := C.1
  have hb := C.2.1
  have hts := C.2.2.1
  have hown := C.2.2.2.1
  have hml := C.2.2.2.2.2.1
  have hK := C.2.2.2.2.2.2.2
  have hl : lv_has ls 2 [(0, .ref (dA 0)), (1, .int p0)] := hl
  have hP : va_P D vwCl (wD cI dA bA aA tA d) s.heap := hP
  have hD : va_D A (wD cI dA bA aA tA d) := hD
  have k38 : ∀ (d_ : DS) (H : Heap) (locs : List Loc), va_P D vwCl (wD cI dA bA aA tA d_) H → va_D A (wD cI dA bA aA tA d_) → va_S A s.heap H locs → ∀ (ls : Array Slot), lv_has ls 2 [(0, .ref (dA 0)), (1, .int p0)] → wpX2_release_b38 post px p0 d_ → W p l e (zr 7 2 12) s m ([.ref (dA 0), .int p0] : List Value).toArray below meth c H locs 1 6 (vx_MQ below (zQ D (fun u : Int32 × DS => some (Value.int u.1)) (fun u : Int32 × DS => post u.1 u.2) (fun u : Int32 × DS => wD cI dA bA aA tA u.2) A) (zXC D px (wD cI dA bA aA tA d) A) ([.ref (dA 0), .int p0] : List Value).toArray s 2 12 A) (F0 m 38 ls []) := by
    intro d_ H locs hP hD hS ls hl h
    unfold wpX2_release_b38 at h
    refine lv_aload_n hx hb dX2_release_38 rfl (lv_at hl 0 rfl) ?_
    refine z_get C f_X2_21 hP (q0 := 0) rfl rfl dX2_release_39 ?_
    refine lv_iload_n hx hb dX2_release_42 rfl (lv_at hl 1 rfl) ?_
    refine lv_iconst (v := 5) hx hb dX2_release_43 (by decide) ?_
    refine z_WV (As := [.int p0, .int 5]) (rest := []) (wr := (List.filterMap (fun i => (wD cI dA bA aA tA d_)[i]?) [0, 6, 7, 8, 9, 10])) (wN := (fun u : BS => wD cI dA bA aA tA (u, d_.2.1, d_.2.2.1, d_.2.2.2.1, d_.2.2.2.2))) [1, 2, 3, 4, 5, 11, 12, 13, 14, 15, 16, 17, 18, 19, 20, 21] [0, 6, 7, 8, 9, 10] [0, 6, 7, 8, 9, 10, 1, 2, 3, 4, 5, 11, 12, 13, 14, 15, 16, 17, 18, 19, 20, 21] C hG hA hP hD hS (c_X0_end hfl hs0 D cI cB cJ bA tA d_.2.2.1 d_.1 p0 5 h) q222 v_X0_end rfl rfl ⟨by decide, by decide, by decide⟩ (by decide) (fun _ => rfl) rfl rfl rfl ⟨(Nat.le_of_ble_eq_true rfl), (Nat.le_of_ble_eq_true rfl)⟩ ⟨(Nat.le_of_ble_eq_true rfl), (Nat.le_of_ble_eq_true rfl)⟩ hl.1 rfl (lv_room (Nat.le_of_ble_eq_true rfl)) dX2_release_44 (fun u H locs h hP hD hS => ?_)
    obtain ⟨b44, rfl⟩ : ∃ z, z = u := ⟨_, rfl⟩
    have hP : va_P D vwCl (wD cI dA bA aA tA (b44, d_.2.1, d_.2.2.1, d_.2.2.2.1, d_.2.2.2.2)) H := hP
    have hD : va_D A (wD cI dA bA aA tA (b44, d_.2.1, d_.2.2.1, d_.2.2.2.1, d_.2.2.2.2)) := hD
    refine lv_iconst (v := 1) hx hb dX2_release_47 (by decide) ?_
    refine lv_aload_n hx hb dX2_release_48 rfl (lv_at hl 0 rfl) ?_
    refine z_get C f_X2_21 hP (q0 := 0) rfl rfl dX2_release_49 ?_
    refine lv_iload_n hx hb dX2_release_52 rfl (lv_at hl 1 rfl) ?_
    refine z_WV (As := [.int p0]) (rest := [.int 1]) (wr := (List.filterMap (fun i => (wD cI dA bA aA tA (b44, d_.2.1, d_.2.2.1, d_.2.2.2.1, d_.2.2.2.2))[i]?) [0, 6, 7, 8, 9, 10])) (wN := (fun u : Int32 × BS => wD cI dA bA aA tA (u.2, d_.2.1, d_.2.2.1, d_.2.2.2.1, d_.2.2.2.2))) [1, 2, 3, 4, 5, 11, 12, 13, 14, 15, 16, 17, 18, 19, 20, 21] [0, 6, 7, 8, 9, 10] [0, 6, 7, 8, 9, 10, 1, 2, 3, 4, 5, 11, 12, 13, 14, 15, 16, 17, 18, 19, 20, 21] C hG hA hP hD hS (c_X0_releaseWaitingBehind hfl hs0 D cI cB cJ bA tA d_.2.2.1 b44 p0 h) q223 v_X0_releaseWaitingBehind rfl rfl ⟨by decide, by decide, by decide⟩ (by decide) (fun _ => rfl) rfl rfl rfl ⟨(Nat.le_of_ble_eq_true rfl), (Nat.le_of_ble_eq_true rfl)⟩ ⟨(Nat.le_of_ble_eq_true rfl), (Nat.le_of_ble_eq_true rfl)⟩ hl.1 rfl (lv_room (Nat.le_of_ble_eq_true rfl)) dX2_release_53 (fun u H locs h hP hD hS => ?_)
    obtain ⟨r53, b53⟩ := u
    have hP : va_P D vwCl (wD cI dA bA aA tA (b53, d_.2.1, d_.2.2.1, d_.2.2.2.1, d_.2.2.2.2)) H := hP
    have hD : va_D A (wD cI dA bA aA tA (b53, d_.2.1, d_.2.2.1, d_.2.2.2.1, d_.2.2.2.2)) := hD
    refine lv_iadd hx hb dX2_release_56 ?_
    exact vx_ret (zW_iret C ((1 + r53), (b53, d_.2.1, d_.2.2.1, d_.2.2.2.1, d_.2.2.2.2)) rfl h hP hD hS (Nat.le_of_ble_eq_true rfl) (Nat.le_of_ble_eq_true rfl) dX2_release_57)
  unfold wpX2_release at h
  refine lv_aload_n hx hb dX2_release_0 rfl (lv_at hl 0 rfl) ?_
  refine lv_iload_n hx hb dX2_release_1 rfl (lv_at hl 1 rfl) ?_
  refine z_XV (As := [.int p0]) (rest := []) (wr := ([] : va_W)) (wN := (fun _ : Unit => wD cI dA bA aA tA d)) [0, 1, 2, 3, 4, 5, 6, 7, 8, 9, 10, 11, 12, 13, 14, 15, 16, 17, 18, 19, 20, 21] [] [0, 1, 2, 3, 4, 5, 6, 7, 8, 9, 10, 11, 12, 13, 14, 15, 16, 17, 18, 19, 20, 21] [0, 1, 2, 3, 4, 5, 6, 7, 8, 9, 10, 11, 12, 13, 14, 15, 16, 17, 18, 19, 20, 21] C hG hA hP hD hS (x_X2_requireDuty hfl hs0 D cI cB cJ dA bA aA tA d p0 h) q211 v_X2_requireDuty rfl rfl ⟨by decide, by decide, by decide⟩ (by decide) (fun _ => rfl) rfl rfl rfl rfl ⟨(Nat.le_of_ble_eq_true rfl), (Nat.le_of_ble_eq_true rfl)⟩ ⟨(Nat.le_of_ble_eq_true rfl), (Nat.le_of_ble_eq_true rfl)⟩ hl.1 rfl (lv_room (Nat.le_of_ble_eq_true rfl)) dX2_release_2 (fun E ce q9 H locs hE hP hS hce hcv hcl => zX_out C hnt hE hP hS hce hcv hcl (Nat.le_of_ble_eq_true rfl) (Nat.le_of_ble_eq_true rfl)) (fun _ H locs h hP hD hS => ?_)
  have hP : va_P D vwCl (wD cI dA bA aA tA d) H := hP
  have hD : va_D A (wD cI dA bA aA tA d) := hD
  refine lv_aload_n hx hb dX2_release_5 rfl (lv_at hl 0 rfl) ?_
  refine z_get C f_X2_21 hP (q0 := 0) rfl rfl dX2_release_6 ?_
  refine z_get C f_X2_89 hP (q0 := 1) rfl rfl dX2_release_9 ?_
  refine lv_iload_n hx hb dX2_release_12 rfl (lv_at hl 1 rfl) ?_
  obtain ⟨g9, h⟩ := h
  refine va_iald hx hb hK hP 3 0 rfl rfl g9 dX2_release_13 ?_
  refine lv_if_eq (tgt := 38) hx hb dX2_release_14 (by decide) (fun c14 => ?_) (fun c14 => ?_)
  · have h := h.1 c14
    refine W.widen (k := 1) (n := 6) (Nat.le_of_ble_eq_true rfl) (Nat.le_of_ble_eq_true rfl) ?_
    exact k38 d  _ _ hP hD hS _ (lv_sub hl [0, 1] rfl) h
  · have h := h.2 c14
    refine lv_aload_n hx hb dX2_release_17 rfl (lv_at hl 0 rfl) ?_
    refine z_get C f_X2_21 hP (q0 := 0) rfl rfl dX2_release_18 ?_
    refine lv_iload_n hx hb dX2_release_21 rfl (lv_at hl 1 rfl) ?_
    refine z_RV (As := [.int p0]) (rest := []) [1, 2, 3, 4, 5, 11, 12, 13, 14, 15, 16, 17, 18, 19, 20, 21] C (hG.kept hS.1 hS.2.1).none hP (c_X0_isOpen hfl hs0 D cI cB cJ bA tA d.2.2.1 d.1 p0 h) q224 v_X0_isOpen rfl rfl rfl rfl ⟨(Nat.le_of_ble_eq_true rfl), (Nat.le_of_ble_eq_true rfl)⟩ ⟨(Nat.le_of_ble_eq_true rfl), (Nat.le_of_ble_eq_true rfl)⟩ hl.1 rfl (lv_room (Nat.le_of_ble_eq_true rfl)) dX2_release_22 (fun r22 h => ?_)
    refine lv_if_ne (tgt := 38) hx hb dX2_release_25 (by decide) (fun c25 => ?_) (fun c25 => ?_)
    · have h := h.2 c25
      refine W.widen (k := 1) (n := 6) (Nat.le_of_ble_eq_true rfl) (Nat.le_of_ble_eq_true rfl) ?_
      exact k38 d  _ _ hP hD hS _ (lv_sub hl [0, 1] rfl) h
    · have h := h.1 c25
      exact z_throw hs0 hfl C hnt hG th_X2_95 hP hS hl.1 dX2_release_28 dX2_release_31 dX2_release_32 dX2_release_34 dX2_release_37 (Nat.le_of_ble_eq_true rfl) (Nat.le_of_ble_eq_true rfl) (Nat.le_of_ble_eq_true rfl) (Nat.le_of_ble_eq_true rfl) h (Nat.le_of_ble_eq_true rfl) (Nat.le_of_ble_eq_true rfl)
def wpX2_stop (post : Int32 → DS → Prop) (px : String → Prop) (d : DS) (p0 : Int32) (p1 : Int32) : Prop := wpX2_requireDuty (wpX2_requireWithin (wpX0_isOpen (fun r17 => (r17 = 0 → px "java/lang/IllegalStateException") ∧ (¬ r17 = 0 → vp_in p0 20 ∧ (vp_in p0 20 ∧ (post (d.1.2.2.2.1 p0.toNatClampNeg) ((d.1.1, d.1.2.1, d.1.2.2.1, (upd d.1.2.2.2.1 p0.toNatClampNeg p1), d.1.2.2.2.2), d.2.1, d.2.2.1, d.2.2.2.1, d.2.2.2.2))))) d.2.2.1 d.1 p0) px p1 0 20) px d p0
set_option maxHeartbeats 4000000 in
set_option maxRecDepth 100000 in
theorem x_X2_stop {l : Launch} (hfl : l.stackTraces = false) {s0 : State} (hs0 : zS s0) (D : va_G) (cI cB cJ : ClassId) (dA : Nat → Nat) (bA : Nat → Nat) (aA : Nat → Nat) (tA : Nat → Nat) (d : DS) (p0 : Int32) (p1 : Int32) {post : Int32 → DS → Prop} {px : String → Prop} (h : wpX2_stop post px d p0 p1) : zX s0 l D (zty cI cB cJ) yX2_stop cX2_stop 4 (some .int) 7 3 18 [.ref (dA 0), .int p0, .int p1] (wD cI dA bA aA tA d) (fun u : Int32 × DS => some (Value.int u.1)) (fun u : Int32 × DS => post u.1 u.2) (fun u : Int32 × DS => wD cI dA bA aA tA u.2) px := by
  refine zX_intro (by decide +kernel) (Nat.le_of_ble_eq_true rfl) ?_
  intro p e s m below meth c A C hnt hA hG hP hD hS ls hl
  have C : zC D (zty cI cB cJ) p s m ([.ref (dA 0), .int p0, .int p1] : List Value).toArray meth c cX2_stop RX2 (some .int) 4 := C
  have hx := C.1
  have hb := C.2.1
  have hts := C.2.2.1
  have hown := C.2.2.2.1
  have hml := C.2.2.2.2.2.1
  have hK := C.2.2.2.2.2.2.2
  have hl : lv_has ls 4 [(0, .ref (dA 0)), (1, .int p0), (2, .int p1)] := hl
  have hP : va_P D vwCl (wD cI dA bA aA tA d) s.heap := hP
  have hD : va_D A (wD cI dA bA aA tA d) := hD
  unfold wpX2_stop at h
  refine lv_aload_n hx hb dX2_stop_0 rfl (lv_at hl 0 rfl) ?_
  refine lv_iload_n hx hb dX2_stop_1 rfl (lv_at hl 1 rfl) ?_
  refine z_XV (As := [.int p0]) (rest := []) (wr := ([] : va_W)) (wN := (fun _ : Unit => wD cI dA bA aA tA d)) [0, 1, 2, 3, 4, 5, 6, 7, 8, 9, 10, 11, 12, 13, 14, 15, 16, 17, 18, 19, 20, 21] [] [0, 1, 2, 3, 4, 5, 6, 7, 8, 9, 10, 11, 12, 13, 14, 15, 16, 17, 18, 19, 20, 21] [0, 1, 2, 3, 4, 5, 6, 7, 8, 9, 10, 11, 12, 13, 14, 15, 16, 17, 18, 19, 20, 21] C hG hA hP hD hS (x_X2_requireDuty hfl hs0 D cI cB cJ dA bA aA tA d p0 h) q211 v_X2_requireDuty rfl rfl ⟨by decide, by decide, by decide⟩ (by decide) (fun _ => rfl) rfl rfl rfl rfl ⟨(Nat.le_of_ble_eq_true rfl), (Nat.le_of_ble_eq_true rfl)⟩ ⟨(Nat.le_of_ble_eq_true rfl), (Nat.le_of_ble_eq_true rfl)⟩ hl.1 rfl (lv_room (Nat.le_of_ble_eq_true rfl)) dX2_stop_2 (fun E ce q9 H locs hE hP hS hce hcv hcl => zX_out C hnt hE hP hS hce hcv hcl (Nat.le_of_ble_eq_true rfl) (Nat.le_of_ble_eq_true rfl)) (fun _ H locs h hP hD hS => ?_)
  have hP : va_P D vwCl (wD cI dA bA aA tA d) H := hP
  have hD : va_D A (wD cI dA bA aA tA d) := hD
  refine lv_iload_n hx hb dX2_stop_5 rfl (lv_at hl 2 rfl) ?_
  refine lv_iconst (v := 0) hx hb dX2_stop_6 (by decide) ?_
  refine lv_bipush (v := 20) hx hb dX2_stop_7 (by decide) ?_
  refine z_XS (As := [.int p1, .int 0, .int 20]) (rest := []) (wr := (List.filterMap (fun i => (wD cI dA bA aA tA d)[i]?) [0, 1, 2, 3, 4, 5, 6, 7, 8, 9, 10, 11, 12, 13, 14, 15, 16, 17, 18, 19, 20, 21])) (wN := (fun _ : Unit => wD cI dA bA aA tA d)) [] [0, 1, 2, 3, 4, 5, 6, 7, 8, 9, 10, 11, 12, 13, 14, 15, 16, 17, 18, 19, 20, 21] [0, 1, 2, 3, 4, 5, 6, 7, 8, 9, 10, 11, 12, 13, 14, 15, 16, 17, 18, 19, 20, 21] [0, 1, 2, 3, 4, 5, 6, 7, 8, 9, 10, 11, 12, 13, 14, 15, 16, 17, 18, 19, 20, 21] C hG hA hP hD hS (x_X2_requireWithin hfl hs0 D cI cB cJ p1 0 20 h) q205 v_X2_requireWithin rfl rfl ⟨by decide, by decide, by decide⟩ (by decide) (fun _ => rfl) rfl rfl ⟨(Nat.le_of_ble_eq_true rfl), (Nat.le_of_ble_eq_true rfl)⟩ ⟨(Nat.le_of_ble_eq_true rfl), (Nat.le_of_ble_eq_true rfl)⟩ hl.1 rfl (lv_room (Nat.le_of_ble_eq_true rfl)) dX2_stop_9 (fun E ce q9 H locs hE hP hS hce hcv hcl => zX_out C hnt hE hP hS hce hcv hcl (Nat.le_of_ble_eq_true rfl) (Nat.le_of_ble_eq_true rfl)) (fun _ H locs h hP hD hS => ?_)
  have hP : va_P D vwCl (wD cI dA bA aA tA d) H := hP
  have hD : va_D A (wD cI dA bA aA tA d) := hD
  refine lv_aload_n hx hb dX2_stop_12 rfl (lv_at hl 0 rfl) ?_
  refine z_get C f_X2_21 hP (q0 := 0) rfl rfl dX2_stop_13 ?_
  refine lv_iload_n hx hb dX2_stop_16 rfl (lv_at hl 1 rfl) ?_
  refine z_RV (As := [.int p0]) (rest := []) [1, 2, 3, 4, 5, 11, 12, 13, 14, 15, 16, 17, 18, 19, 20, 21] C (hG.kept hS.1 hS.2.1).none hP (c_X0_isOpen hfl hs0 D cI cB cJ bA tA d.2.2.1 d.1 p0 h) q224 v_X0_isOpen rfl rfl rfl rfl ⟨(Nat.le_of_ble_eq_true rfl), (Nat.le_of_ble_eq_true rfl)⟩ ⟨(Nat.le_of_ble_eq_true rfl), (Nat.le_of_ble_eq_true rfl)⟩ hl.1 rfl (lv_room (Nat.le_of_ble_eq_true rfl)) dX2_stop_17 (fun r17 h => ?_)
  refine lv_if_ne (tgt := 33) hx hb dX2_stop_20 (by decide) (fun c20 => ?_) (fun c20 => ?_)
  · have h := h.2 c20
    refine lv_aload_n hx hb dX2_stop_33 rfl (lv_at hl 0 rfl) ?_
    refine z_get C f_X2_21 hP (q0 := 0) rfl rfl dX2_stop_34 ?_
    refine z_get C f_X2_106 hP (q0 := 1) rfl rfl dX2_stop_37 ?_
    refine lv_iload_n hx hb dX2_stop_40 rfl (lv_at hl 1 rfl) ?_
    obtain ⟨g9, h⟩ := h
    refine va_iald hx hb hK hP 5 0 rfl rfl g9 dX2_stop_41 ?_
    refine lv_istore_n (lv' := [(3, .int (d.1.2.2.2.1 p0.toNatClampNeg)), (0, .ref (dA 0)), (1, .int p0), (2, .int p1)]) hx hb dX2_stop_42 rfl hl (by decide) rfl (fun ls hl => ?_)
    refine lv_aload_n hx hb dX2_stop_43 rfl (lv_at hl 1 rfl) ?_
    refine z_get C f_X2_21 hP (q0 := 0) rfl rfl dX2_stop_44 ?_
    refine z_get C f_X2_106 hP (q0 := 1) rfl rfl dX2_stop_47 ?_
    refine lv_iload_n hx hb dX2_stop_50 rfl (lv_at hl 2 rfl) ?_
    refine lv_iload_n hx hb dX2_stop_51 rfl (lv_at hl 3 rfl) ?_
    obtain ⟨g9, h⟩ := h
    refine va_iast hx hb hK hP hD hS 5 0 rfl rfl g9 dX2_stop_52 (fun H locs hP hD hS => ?_)
    have hP : va_P D vwCl (wD cI dA bA aA tA ((d.1.1, d.1.2.1, d.1.2.2.1, (upd d.1.2.2.2.1 p0.toNatClampNeg p1), d.1.2.2.2.2), d.2.1, d.2.2.1, d.2.2.2.1, d.2.2.2.2)) H := hP
    have hD : va_D A (wD cI dA bA aA tA ((d.1.1, d.1.2.1, d.1.2.2.1, (upd d.1.2.2.2.1 p0.toNatClampNeg p1), d.1.2.2.2.2), d.2.1, d.2.2.1, d.2.2.2.1, d.2.2.2.2)) := hD
    refine lv_iload_n hx hb dX2_stop_53 rfl (lv_at hl 0 rfl) ?_
    exact vx_ret (zW_iret C ((d.1.2.2.2.1 p0.toNatClampNeg), ((d.1.1, d.1.2.1, d.1.2.2.1, (upd d.1.2.2.2.1 p0.toNatClampNeg p1), d.1.2.2.2.2), d.2.1, d.2.2.1, d.2.2.2.1, d.2.2.2.2)) rfl h hP hD hS (Nat.le_of_ble_eq_true rfl) (Nat.le_of_ble_eq_true rfl) dX2_stop_54)
  · have h := h.1 c20
    exact z_throw hs0 hfl C hnt hG th_X2_104 hP hS hl.1 dX2_stop_23 dX2_stop_26 dX2_stop_27 dX2_stop_29 dX2_stop_32 (Nat.le_of_ble_eq_true rfl) (Nat.le_of_ble_eq_true rfl) (Nat.le_of_ble_eq_true rfl) (Nat.le_of_ble_eq_true rfl) h (Nat.le_of_ble_eq_true rfl) (Nat.le_of_ble_eq_true rfl)
def wpX2_give (post : Int32 → DS → Prop) (px : String → Prop) (d : DS) (p0 : Int32) (p1 : Int32) : Prop := wpX2_requireParty (wpX2_requireWithin (vp_in p0 6 ∧ (vp_in p0 6 ∧ (vp_in p0 6 ∧ (post ((upd d.1.1 p0.toNatClampNeg ((d.1.1 p0.toNatClampNeg) + p1)) p0.toNatClampNeg) (((upd d.1.1 p0.toNatClampNeg ((d.1.1 p0.toNatClampNeg) + p1)), d.1.2.1, d.1.2.2.1, d.1.2.2.2.1, d.1.2.2.2.2), d.2.1, d.2.2.1, d.2.2.2.1, d.2.2.2.2))))) px p1 1 500) px d p0
set_option maxHeartbeats 4000000 in
set_option maxRecDepth 100000 in
theorem x_X2_give {l : Launch} (hfl : l.stackTraces = false) {s0 : State} (hs0 : zS s0) (D : va_G) (cI cB cJ : ClassId) (dA : Nat → Nat) (bA : Nat → Nat) (aA : Nat → Nat) (tA : Nat → Nat) (d : DS) (p0 : Int32) (p1 : Int32) {post : Int32 → DS → Prop} {px : String → Prop} (h : wpX2_give post px d p0 p1) : zX s0 l D (zty cI cB cJ) yX2_give cX2_give 3 (some .int) 7 2 12 [.ref (dA 0), .int p0, .int p1] (wD cI dA bA aA tA d) (fun u : Int32 × DS => some (Value.int u.1)) (fun u : Int32 × DS => post u.1 u.2) (fun u : Int32 × DS => wD cI dA bA aA tA u.2) px := by
  refine zX_intro (by decide +kernel) (Nat.le_of_ble_eq_true rfl) ?_
  intro p e s m below meth c A C hnt hA hG hP hD hS ls hl
  have C : zC D (zty cI cB cJ) p s m ([.ref (dA 0), .int p0, .int p1] : List Value).toArray meth c cX2_give RX2 (some .int) 3 := C
  have hx := C.1
  have hb := C.2.1
  have hts := C.2.2.1
  have hown := C.2.2.2.1
  have hml := C.2.2.2.2.2.1
  have hK := C.2.2.2.2.2.2.2
  have hl : lv_has ls 3 [(0, .ref (dA 0)), (1, .int p0), (2, .int p1)] := hl
  have hP : va_P D vwCl (wD cI dA bA aA tA d) s.heap := hP
  have hD : va_D A (wD cI dA bA aA tA d) := hD
  unfold wpX2_give at h
  refine lv_aload_n hx hb dX2_give_0 rfl (lv_at hl 0 rfl) ?_
  refine lv_iload_n hx hb dX2_give_1 rfl (lv_at hl 1 rfl) ?_
  refine z_XV (As := [.int p0]) (rest := []) (wr := ([] : va_W)) (wN := (fun _ : Unit => wD cI dA bA aA tA d)) [0, 1, 2, 3, 4, 5, 6, 7, 8, 9, 10, 11, 12, 13, 14, 15, 16, 17, 18, 19, 20, 21] [] [0, 1, 2, 3, 4, 5, 6, 7, 8, 9, 10, 11, 12, 13, 14, 15, 16, 17, 18, 19, 20, 21] [0, 1, 2, 3, 4, 5, 6, 7, 8, 9, 10, 11, 12, 13, 14, 15, 16, 17, 18, 19, 20, 21] C hG hA hP hD hS (x_X2_requireParty hfl hs0 D cI cB cJ dA bA aA tA d p0 h) q229 v_X2_requireParty rfl rfl ⟨by decide, by decide, by decide⟩ (by decide) (fun _ => rfl) rfl rfl rfl rfl ⟨(Nat.le_of_ble_eq_true rfl), (Nat.le_of_ble_eq_true rfl)⟩ ⟨(Nat.le_of_ble_eq_true rfl), (Nat.le_of_ble_eq_true rfl)⟩ hl.1 rfl (lv_room (Nat.le_of_ble_eq_true rfl)) dX2_give_2 (fun E ce q9 H locs hE hP hS hce hcv hcl => zX_out C hnt hE hP hS hce hcv hcl (Nat.le_of_ble_eq_true rfl) (Nat.le_of_ble_eq_true rfl)) (fun _ H locs h hP hD hS => ?_)
  have hP : va_P D vwCl (wD cI dA bA aA tA d) H := hP
  have hD : va_D A (wD cI dA bA aA tA d) := hD
  refine lv_iload_n hx hb dX2_give_5 rfl (lv_at hl 2 rfl) ?_
  refine lv_iconst (v := 1) hx hb dX2_give_6 (by decide) ?_
  refine lv_sipush (v := 500) hx hb dX2_give_7 (by decide) ?_
  refine z_XS (As := [.int p1, .int 1, .int 500]) (rest := []) (wr := (List.filterMap (fun i => (wD cI dA bA aA tA d)[i]?) [0, 1, 2, 3, 4, 5, 6, 7, 8, 9, 10, 11, 12, 13, 14, 15, 16, 17, 18, 19, 20, 21])) (wN := (fun _ : Unit => wD cI dA bA aA tA d)) [] [0, 1, 2, 3, 4, 5, 6, 7, 8, 9, 10, 11, 12, 13, 14, 15, 16, 17, 18, 19, 20, 21] [0, 1, 2, 3, 4, 5, 6, 7, 8, 9, 10, 11, 12, 13, 14, 15, 16, 17, 18, 19, 20, 21] [0, 1, 2, 3, 4, 5, 6, 7, 8, 9, 10, 11, 12, 13, 14, 15, 16, 17, 18, 19, 20, 21] C hG hA hP hD hS (x_X2_requireWithin hfl hs0 D cI cB cJ p1 1 500 h) q205 v_X2_requireWithin rfl rfl ⟨by decide, by decide, by decide⟩ (by decide) (fun _ => rfl) rfl rfl ⟨(Nat.le_of_ble_eq_true rfl), (Nat.le_of_ble_eq_true rfl)⟩ ⟨(Nat.le_of_ble_eq_true rfl), (Nat.le_of_ble_eq_true rfl)⟩ hl.1 rfl (lv_room (Nat.le_of_ble_eq_true rfl)) dX2_give_10 (fun E ce q9 H locs hE hP hS hce hcv hcl => zX_out C hnt hE hP hS hce hcv hcl (Nat.le_of_ble_eq_true rfl) (Nat.le_of_ble_eq_true rfl)) (fun _ H locs h hP hD hS => ?_)
  have hP : va_P D vwCl (wD cI dA bA aA tA d) H := hP
  have hD : va_D A (wD cI dA bA aA tA d) := hD
  refine lv_aload_n hx hb dX2_give_13 rfl (lv_at hl 0 rfl) ?_
  refine z_get C f_X2_21 hP (q0 := 0) rfl rfl dX2_give_14 ?_
  refine z_get C f_X2_43 hP (q0 := 1) rfl rfl dX2_give_17 ?_
  refine lv_iload_n hx hb dX2_give_20 rfl (lv_at hl 1 rfl) ?_
  refine lv_dup2_11 hx hb dX2_give_21 rfl rfl ?_
  obtain ⟨g9, h⟩ := h
  refine va_iald hx hb hK hP 2 0 rfl rfl g9 dX2_give_22 ?_
  refine lv_iload_n hx hb dX2_give_23 rfl (lv_at hl 2 rfl) ?_
  refine lv_iadd hx hb dX2_give_24 ?_
  obtain ⟨g9, h⟩ := h
  refine va_iast hx hb hK hP hD hS 2 0 rfl rfl g9 dX2_give_25 (fun H locs hP hD hS => ?_)
  have hP : va_P D vwCl (wD cI dA bA aA tA (((upd d.1.1 p0.toNatClampNeg ((d.1.1 p0.toNatClampNeg) + p1)), d.1.2.1, d.1.2.2.1, d.1.2.2.2.1, d.1.2.2.2.2), d.2.1, d.2.2.1, d.2.2.2.1, d.2.2.2.2)) H := hP
  have hD : va_D A (wD cI dA bA aA tA (((upd d.1.1 p0.toNatClampNeg ((d.1.1 p0.toNatClampNeg) + p1)), d.1.2.1, d.1.2.2.1, d.1.2.2.2.1, d.1.2.2.2.2), d.2.1, d.2.2.1, d.2.2.2.1, d.2.2.2.2)) := hD
  refine lv_aload_n hx hb dX2_give_26 rfl (lv_at hl 0 rfl) ?_
  refine z_get C f_X2_21 hP (q0 := 0) rfl rfl dX2_give_27 ?_
  refine z_get C f_X2_43 hP (q0 := 1) rfl rfl dX2_give_30 ?_
  refine lv_iload_n hx hb dX2_give_33 rfl (lv_at hl 1 rfl) ?_
  obtain ⟨g9, h⟩ := h
  refine va_iald hx hb hK hP 2 0 rfl rfl g9 dX2_give_34 ?_
  exact vx_ret (zW_iret C (((upd d.1.1 p0.toNatClampNeg ((d.1.1 p0.toNatClampNeg) + p1)) p0.toNatClampNeg), (((upd d.1.1 p0.toNatClampNeg ((d.1.1 p0.toNatClampNeg) + p1)), d.1.2.1, d.1.2.2.1, d.1.2.2.2.1, d.1.2.2.2.2), d.2.1, d.2.2.1, d.2.2.2.1, d.2.2.2.2)) rfl h hP hD hS (Nat.le_of_ble_eq_true rfl) (Nat.le_of_ble_eq_true rfl) dX2_give_35)
def wpX2_pass (post : Int32 → DS → Prop) (px : String → Prop) (d : DS) (p0 : Int32) : Prop := wpX2_requireWithin (wpX0_live (fun r22 b22 => post r22 (b22, d.2.1, d.2.2.1, d.2.2.2.1, (d.2.2.2.2 + p0))) d.2.2.1 d.1 p0) px p0 1 60
set_option maxHeartbeats 4000000 in
set_option maxRecDepth 100000 in
theorem x_X2_pass {l : Launch} (hfl : l.stackTraces = false) {s0 : State} (hs0 : zS s0) (D : va_G) (cI cB cJ : ClassId) (dA : Nat → Nat) (bA : Nat → Nat) (aA : Nat → Nat) (tA : Nat → Nat) (d : DS) (p0 : Int32) {post : Int32 → DS → Prop} {px : String → Prop} (h : wpX2_pass post px d p0) : zX s0 l D (zty cI cB cJ) yX2_pass cX2_pass 2 (some .int) 7 1 6 [.ref (dA 0), .int p0] (wD cI dA bA aA tA d) (fun u : Int32 × DS => some (Value.int u.1)) (fun u : Int32 × DS => post u.1 u.2) (fun u : Int32 × DS => wD cI dA bA aA tA u.2) px := by
  refine zX_intro (by decide +kernel) (Nat.le_of_ble_eq_true rfl) ?_
  intro p e s m below meth c A C hnt hA hG hP hD hS ls hl
  have C : zC D (zty cI cB cJ) p s m ([.ref (dA 0), .int p0] : List Value).toArray meth c cX2_pass RX2 (some .int) 2 := C
  have hx := C.1
  have hb := C.2.1
  have hts := C.2.2.1
  have hown := C.2.2.2.1
  have hml := C.2.2.2.2.2.1
  have hK := C.2.2.2.2.2.2.2
  have hl : lv_has ls 2 [(0, .ref (dA 0)), (1, .int p0)] := hl
  have hP : va_P D vwCl (wD cI dA bA aA tA d) s.heap := hP
  have hD : va_D A (wD cI dA bA aA tA d) := hD
  unfold wpX2_pass at h
  refine lv_iload_n hx hb dX2_pass_0 rfl (lv_at hl 1 rfl) ?_
  refine lv_iconst (v := 1) hx hb dX2_pass_1 (by decide) ?_
  refine lv_bipush (v := 60) hx hb dX2_pass_2 (by decide) ?_
  refine z_XS (As := [.int p0, .int 1, .int 60]) (rest := []) (wr := (List.filterMap (fun i => (wD cI dA bA aA tA d)[i]?) [0, 1, 2, 3, 4, 5, 6, 7, 8, 9, 10, 11, 12, 13, 14, 15, 16, 17, 18, 19, 20, 21])) (wN := (fun _ : Unit => wD cI dA bA aA tA d)) [] [0, 1, 2, 3, 4, 5, 6, 7, 8, 9, 10, 11, 12, 13, 14, 15, 16, 17, 18, 19, 20, 21] [0, 1, 2, 3, 4, 5, 6, 7, 8, 9, 10, 11, 12, 13, 14, 15, 16, 17, 18, 19, 20, 21] [0, 1, 2, 3, 4, 5, 6, 7, 8, 9, 10, 11, 12, 13, 14, 15, 16, 17, 18, 19, 20, 21] C hG hA hP hD hS (x_X2_requireWithin hfl hs0 D cI cB cJ p0 1 60 h) q205 v_X2_requireWithin rfl rfl ⟨by decide, by decide, by decide⟩ (by decide) (fun _ => rfl) rfl rfl ⟨(Nat.le_of_ble_eq_true rfl), (Nat.le_of_ble_eq_true rfl)⟩ ⟨(Nat.le_of_ble_eq_true rfl), (Nat.le_of_ble_eq_true rfl)⟩ hl.1 rfl (lv_room (Nat.le_of_ble_eq_true rfl)) dX2_pass_4 (fun E ce q9 H locs hE hP hS hce hcv hcl => zX_out C hnt hE hP hS hce hcv hcl (Nat.le_of_ble_eq_true rfl) (Nat.le_of_ble_eq_true rfl)) (fun _ H locs h hP hD hS => ?_)
  have hP : va_P D vwCl (wD cI dA bA aA tA d) H := hP
  have hD : va_D A (wD cI dA bA aA tA d) := hD
  refine lv_aload_n hx hb dX2_pass_7 rfl (lv_at hl 0 rfl) ?_
  refine lv_dup hx hb dX2_pass_8 rfl ?_
  refine z_get C f_X2_109 hP (q0 := 0) rfl rfl dX2_pass_9 ?_
  refine lv_iload_n hx hb dX2_pass_12 rfl (lv_at hl 1 rfl) ?_
  refine lv_iadd hx hb dX2_pass_13 ?_
  refine z_put C f_X2_109 zt_X2 rfl rfl rfl rfl hP hD hS (q0 := 0) rfl (Nat.le_of_ble_eq_true rfl) dX2_pass_14 (fun H locs hP hD hS => ?_)
  have hP : va_P D vwCl (wD cI dA bA aA tA (d.1, d.2.1, d.2.2.1, d.2.2.2.1, (d.2.2.2.2 + p0))) H := hP
  have hD : va_D A (wD cI dA bA aA tA (d.1, d.2.1, d.2.2.1, d.2.2.2.1, (d.2.2.2.2 + p0))) := hD
  refine lv_aload_n hx hb dX2_pass_17 rfl (lv_at hl 0 rfl) ?_
  refine z_get C f_X2_21 hP (q0 := 0) rfl rfl dX2_pass_18 ?_
  refine lv_iload_n hx hb dX2_pass_21 rfl (lv_at hl 1 rfl) ?_
  refine z_WV (As := [.int p0]) (rest := []) (wr := (List.filterMap (fun i => (wD cI dA bA aA tA (d.1, d.2.1, d.2.2.1, d.2.2.2.1, (d.2.2.2.2 + p0)))[i]?) [0, 6, 7, 8, 9, 10])) (wN := (fun u : Int32 × BS => wD cI dA bA aA tA (u.2, d.2.1, d.2.2.1, d.2.2.2.1, (d.2.2.2.2 + p0)))) [1, 2, 3, 4, 5, 11, 12, 13, 14, 15, 16, 17, 18, 19, 20, 21] [0, 6, 7, 8, 9, 10] [0, 6, 7, 8, 9, 10, 1, 2, 3, 4, 5, 11, 12, 13, 14, 15, 16, 17, 18, 19, 20, 21] C hG hA hP hD hS (c_X0_live hfl hs0 D cI cB cJ bA tA d.2.2.1 d.1 p0 h) q234 v_X0_live rfl rfl ⟨by decide, by decide, by decide⟩ (by decide) (fun _ => rfl) rfl rfl rfl ⟨(Nat.le_of_ble_eq_true rfl), (Nat.le_of_ble_eq_true rfl)⟩ ⟨(Nat.le_of_ble_eq_true rfl), (Nat.le_of_ble_eq_true rfl)⟩ hl.1 rfl (lv_room (Nat.le_of_ble_eq_true rfl)) dX2_pass_22 (fun u H locs h hP hD hS => ?_)
  obtain ⟨r22, b22⟩ := u
  have hP : va_P D vwCl (wD cI dA bA aA tA (b22, d.2.1, d.2.2.1, d.2.2.2.1, (d.2.2.2.2 + p0))) H := hP
  have hD : va_D A (wD cI dA bA aA tA (b22, d.2.1, d.2.2.1, d.2.2.2.1, (d.2.2.2.2 + p0))) := hD
  exact vx_ret (zW_iret C (r22, (b22, d.2.1, d.2.2.1, d.2.2.2.1, (d.2.2.2.2 + p0))) rfl h hP hD hS (Nat.le_of_ble_eq_true rfl) (Nat.le_of_ble_eq_true rfl) dX2_pass_25)
def wpX2_day (post : Int32 → Prop) (d : DS) : Prop := post d.2.2.2.2
set_option maxHeartbeats 4000000 in
set_option maxRecDepth 100000 in
theorem c_X2_day {l : Launch} (hfl : l.stackTraces = false) {s0 : State} (hs0 : zS s0) (D : va_G) (cI cB cJ : ClassId) (dA : Nat → Nat) (bA : Nat → Nat) (aA : Nat → Nat) (tA : Nat → Nat) (d : DS) {post : Int32 → Prop} (h : wpX2_day post d) : zR s0 l D (zty cI cB cJ) yX2_day cX2_day 1 (some .int) 1 [.ref (dA 0)] (wD cI dA bA aA tA d) (fun u : Int32 => some (Value.int u)) (fun u : Int32 => post u) := by
  refine zR_intro (by decide +kernel) (Nat.le_of_ble_eq_true rfl) ?_
  intro p e s m below meth c C hP hG ls hl
  have C : zC D (zty cI cB cJ) p s m ([.ref (dA 0)] : List Value).toArray meth c cX2_day RX2 (some .int) 1 := C
  have hx := C.1
  have hb := C.2.1
  have hts := C.2.2.1
  have hown := C.2.2.2.1
  have hml := C.2.2.2.2.2.1
  have hK := C.2.2.2.2.2.2.2
  have hl : lv_has ls 1 [(0, .ref (dA 0))] := hl
  unfold wpX2_day at h
  refine lv_aload_n hx hb dX2_day_0 rfl (lv_at hl 0 rfl) ?_
  refine z_get C f_X2_109 hP (q0 := 0) rfl rfl dX2_day_1 ?_
  exact zR_iret C d.2.2.2.2 rfl h dX2_day_4
def wpX2_parties (post : Int32 → Prop) (d : DS) : Prop := post d.2.2.2.1
set_option maxHeartbeats 4000000 in
set_option maxRecDepth 100000 in
theorem c_X2_parties {l : Launch} (hfl : l.stackTraces = false) {s0 : State} (hs0 : zS s0) (D : va_G) (cI cB cJ : ClassId) (dA : Nat → Nat) (bA : Nat → Nat) (aA : Nat → Nat) (tA : Nat → Nat) (d : DS) {post : Int32 → Prop} (h : wpX2_parties post d) : zR s0 l D (zty cI cB cJ) yX2_parties cX2_parties 1 (some .int) 1 [.ref (dA 0)] (wD cI dA bA aA tA d) (fun u : Int32 => some (Value.int u)) (fun u : Int32 => post u) := by
  refine zR_intro (by decide +kernel) (Nat.le_of_ble_eq_true rfl) ?_
  intro p e s m below meth c C hP hG ls hl
  have C : zC D (zty cI cB cJ) p s m ([.ref (dA 0)] : List Value).toArray meth c cX2_parties RX2 (some .int) 1 := C
  have hx := C.1
  have hb := C.2.1
  have hts := C.2.2.1
  have hown := C.2.2.2.1
  have hml := C.2.2.2.2.2.1
  have hK := C.2.2.2.2.2.2.2
  have hl : lv_has ls 1 [(0, .ref (dA 0))] := hl
  unfold wpX2_parties at h
  refine lv_aload_n hx hb dX2_parties_0 rfl (lv_at hl 0 rfl) ?_
  refine z_get C f_X2_32 hP (q0 := 0) rfl rfl dX2_parties_1 ?_
  exact zR_iret C d.2.2.2.1 rfl h dX2_parties_4
def wpX2_duties (post : Int32 → Prop) (d : DS) : Prop := post d.2.2.1.2.2.2.2.2.2.2.2.2.2
set_option maxHeartbeats 4000000 in
set_option maxRecDepth 100000 in
theorem c_X2_duties {l : Launch} (hfl : l.stackTraces = false) {s0 : State} (hs0 : zS s0) (D : va_G) (cI cB cJ : ClassId) (dA : Nat → Nat) (bA : Nat → Nat) (aA : Nat → Nat) (tA : Nat → Nat) (d : DS) {post : Int32 → Prop} (h : wpX2_duties post d) : zR s0 l D (zty cI cB cJ) yX2_duties cX2_duties 1 (some .int) 1 [.ref (dA 0)] (wD cI dA bA aA tA d) (fun u : Int32 => some (Value.int u)) (fun u : Int32 => post u) := by
  refine zR_intro (by decide +kernel) (Nat.le_of_ble_eq_true rfl) ?_
  intro p e s m below meth c C hP hG ls hl
  have C : zC D (zty cI cB cJ) p s m ([.ref (dA 0)] : List Value).toArray meth c cX2_duties RX2 (some .int) 1 := C
  have hx := C.1
  have hb := C.2.1
  have hts := C.2.2.1
  have hown := C.2.2.2.1
  have hml := C.2.2.2.2.2.1
  have hK := C.2.2.2.2.2.2.2
  have hl : lv_has ls 1 [(0, .ref (dA 0))] := hl
  unfold wpX2_duties at h
  refine lv_aload_n hx hb dX2_duties_0 rfl (lv_at hl 0 rfl) ?_
  refine z_get C f_X2_10 hP (q0 := 0) rfl rfl dX2_duties_1 ?_
  refine z_get C f_X2_59 hP (q0 := 11) rfl rfl dX2_duties_4 ?_
  exact zR_iret C d.2.2.1.2.2.2.2.2.2.2.2.2.2 rfl h dX2_duties_7
def wpX2_inState_b37 (post : Int32 → Prop) (px : String → Prop) (d : DS) (p0 : Int32) (K10 : Int32 → Int32 → Prop) (x2 : Int32) (x3 : Int32) : Prop := K10 x2 (x3 + 1)
def wpX2_inState_b10 (post : Int32 → Prop) (px : String → Prop) (d : DS) (p0 : Int32) : Nat → Int32 → Int32 → Prop
  | 0, _, _ => False
  | n + 1, x2, x3 => (d.2.2.1.2.2.2.2.2.2.2.2.2.2 ≤ x3 → post x2) ∧ (¬ d.2.2.1.2.2.2.2.2.2.2.2.2.2 ≤ x3 → vp_in x3 20 ∧ (((d.1.2.1 x3.toNatClampNeg) = p0 → wpX2_inState_b37 post px d p0 (fun z0 z1 => wpX2_inState_b10 post px d p0 n z0 z1) (x2 + 1) x3) ∧ (¬ (d.1.2.1 x3.toNatClampNeg) = p0 → wpX2_inState_b37 post px d p0 (fun z0 z1 => wpX2_inState_b10 post px d p0 n z0 z1) x2 x3)))
def wpX2_inState (post : Int32 → Prop) (px : String → Prop) (d : DS) (p0 : Int32) : Prop := wpX2_requireWithin (∃ n10 : Nat, wpX2_inState_b10 post px d p0 n10 0 0) px p0 0 5
set_option maxHeartbeats 4000000 in
set_option maxRecDepth 100000 in
theorem c_X2_inState {l : Launch} (hfl : l.stackTraces = false) {s0 : State} (hs0 : zS s0) (D : va_G) (cI cB cJ : ClassId) (dA : Nat → Nat) (bA : Nat → Nat) (aA : Nat → Nat) (tA : Nat → Nat) (d : DS) (p0 : Int32) {post : Int32 → Prop} (h : wpX2_inState post (fun _ => False) d p0) : zR s0 l D (zty cI cB cJ) yX2_inState cX2_inState 4 (some .int) 2 [.ref (dA 0), .int p0] (wD cI dA bA aA tA d) (fun u : Int32 => some (Value.int u)) (fun u : Int32 => post u) := by
  refine zR_intro (by decide +kernel) (Nat.le_of_ble_eq_true rfl) ?_
  intro p e s m below meth c C hP hG ls hl
  have C : zC D (zty cI cB cJ) p s m ([.ref (dA 0), .int p0] : List Value).toArray meth c cX2_inState RX2 (some .int) 4 := C
  have hx := C.1
  have hb := C.2.1
  have hts := C.2.2.1
  have hown := C.2.2.2.1
  have hml := C.2.2.2.2.2.1
  have hK := C.2.2.2.2.2.2.2
  have hl : lv_has ls 4 [(0, .ref (dA 0)), (1, .int p0)] := hl
  have k37 : ∀ (K10 : Int32 → Int32 → Prop) (hK10 : ∀ (x2 : Int32) (x3 : Int32) (ls : Array Slot), lv_has ls 4 [(0, .ref (dA 0)), (1, .int p0), (2, .int x2), (3, .int x3)] → K10 x2 x3 → W p l e (zr 2 0 0) s m ([.ref (dA 0), .int p0] : List Value).toArray below meth c s.heap [] 0 0 (MQ below (zQr (fun u : Int32 => some (Value.int u)) (fun u : Int32 => post u)) ([.ref (dA 0), .int p0] : List Value).toArray s 0 0 (fun _ => False)) (F0 m 10 ls [])), ∀ (x2 : Int32) (x3 : Int32) (ls : Array Slot), lv_has ls 4 [(0, .ref (dA 0)), (1, .int p0), (2, .int x2), (3, .int x3)] → wpX2_inState_b37 post (fun _ : String => False) d p0 K10 x2 x3 → W p l e (zr 2 0 0) s m ([.ref (dA 0), .int p0] : List Value).toArray below meth c s.heap [] 0 0 (MQ below (zQr (fun u : Int32 => some (Value.int u)) (fun u : Int32 => post u)) ([.ref (dA 0), .int p0] : List Value).toArray s 0 0 (fun _ => False)) (F0 m 37 ls []) := by
    intro K10 hK10
    intro x2 x3 ls hl h
    unfold wpX2_inState_b37 at h
    refine lv_iinc (v := (x3 + 1)) (lv' := [(3, .int (x3 + 1)), (0, .ref (dA 0)), (1, .int p0), (2, .int x2)]) hx hb dX2_inState_37 hl (k := 3) rfl (by first | rfl | decide) (by decide) rfl (fun ls hl => ?_)
    refine lv_goto (tgt := 10) hx hb dX2_inState_40 (by decide) ?_
    exact hK10 x2 (x3 + 1)  _ (lv_sub hl [1, 2, 3, 0] rfl) h
  have k10 : ∀ (n : Nat) (x2 : Int32) (x3 : Int32) (ls : Array Slot), lv_has ls 4 [(0, .ref (dA 0)), (1, .int p0), (2, .int x2), (3, .int x3)] → wpX2_inState_b10 post (fun _ : String => False) d p0 n x2 x3 → W p l e (zr 2 0 0) s m ([.ref (dA 0), .int p0] : List Value).toArray below meth c s.heap [] 0 0 (MQ below (zQr (fun u : Int32 => some (Value.int u)) (fun u : Int32 => post u)) ([.ref (dA 0), .int p0] : List Value).toArray s 0 0 (fun _ => False)) (F0 m 10 ls []) := by
    intro n
    induction n with
    | zero =>
      intro x2 x3 ls hl h
      exact h.elim
    | succ n ih =>
      intro x2 x3 ls hl h
      rw [wpX2_inState_b10] at h
      refine lv_iload_n hx hb dX2_inState_10 rfl (lv_at hl 3 rfl) ?_
      refine lv_aload_n hx hb dX2_inState_11 rfl (lv_at hl 0 rfl) ?_
      refine z_get C f_X2_10 hP (q0 := 0) rfl rfl dX2_inState_12 ?_
      refine z_get C f_X2_59 hP (q0 := 11) rfl rfl dX2_inState_15 ?_
      refine lv_icmp_ge (tgt := 43) hx hb dX2_inState_18 (by decide) (fun c18 => ?_) (fun c18 => ?_)
      · have h := h.1 c18
        refine lv_iload_n hx hb dX2_inState_43 rfl (lv_at hl 2 rfl) ?_
        exact zR_iret C x2 rfl h dX2_inState_44
      · have h := h.2 c18
        refine lv_aload_n hx hb dX2_inState_21 rfl (lv_at hl 0 rfl) ?_
        refine z_get C f_X2_21 hP (q0 := 0) rfl rfl dX2_inState_22 ?_
        refine z_get C f_X2_89 hP (q0 := 1) rfl rfl dX2_inState_25 ?_
        refine lv_iload_n hx hb dX2_inState_28 rfl (lv_at hl 3 rfl) ?_
        obtain ⟨g9, h⟩ := h
        refine va_iald hx hb hK hP 3 0 rfl rfl g9 dX2_inState_29 ?_
        refine lv_iload_n hx hb dX2_inState_30 rfl (lv_at hl 1 rfl) ?_
        refine lv_icmp_ne (tgt := 37) hx hb dX2_inState_31 (by decide) (fun c31 => ?_) (fun c31 => ?_)
        · have h := h.2 c31
          exact k37 _ ih x2 x3  _ (lv_sub hl [0, 1, 2, 3] rfl) h
        · have h := h.1 c31
          refine lv_iinc (v := (x2 + 1)) (lv' := [(2, .int (x2 + 1)), (0, .ref (dA 0)), (1, .int p0), (3, .int x3)]) hx hb dX2_inState_34 hl (k := 2) rfl (by first | rfl | decide) (by decide) rfl (fun ls hl => ?_)
          exact k37 _ ih (x2 + 1) x3  _ (lv_sub hl [1, 2, 0, 3] rfl) h
  unfold wpX2_inState at h
  refine lv_iload_n hx hb dX2_inState_0 rfl (lv_at hl 1 rfl) ?_
  refine lv_iconst (v := 0) hx hb dX2_inState_1 (by decide) ?_
  refine lv_iconst (v := 5) hx hb dX2_inState_2 (by decide) ?_
  refine z_RS (As := [.int p0, .int 0, .int 5]) (rest := []) [] C hG hP (c_X2_requireWithin hfl hs0 D cI cB cJ p0 0 5 h) q205 v_X2_requireWithin rfl rfl ⟨(Nat.le_of_ble_eq_true rfl), (Nat.le_of_ble_eq_true rfl)⟩ ⟨(Nat.le_of_ble_eq_true rfl), (Nat.le_of_ble_eq_true rfl)⟩ hl.1 rfl (lv_room (Nat.le_of_ble_eq_true rfl)) dX2_inState_3 (fun u h => ?_)
  refine lv_iconst (v := 0) hx hb dX2_inState_6 (by decide) ?_
  refine lv_istore_n (lv' := [(2, .int 0), (0, .ref (dA 0)), (1, .int p0)]) hx hb dX2_inState_7 rfl hl (by decide) rfl (fun ls hl => ?_)
  refine lv_iconst (v := 0) hx hb dX2_inState_8 (by decide) ?_
  refine lv_istore_n (lv' := [(3, .int 0), (2, .int 0), (0, .ref (dA 0)), (1, .int p0)]) hx hb dX2_inState_9 rfl hl (by decide) rfl (fun ls hl => ?_)
  obtain ⟨n9, h⟩ := h
  exact k10 n9 0 0  _ (lv_sub hl [2, 3, 1, 0] rfl) h
set_option maxHeartbeats 4000000 in
set_option maxRecDepth 100000 in
theorem x_X2_inState {l : Launch} (hfl : l.stackTraces = false) {s0 : State} (hs0 : zS s0) (D : va_G) (cI cB cJ : ClassId) (dA : Nat → Nat) (bA : Nat → Nat) (aA : Nat → Nat) (tA : Nat → Nat) (d : DS) (p0 : Int32) {post : Int32 → Prop} {px : String → Prop} (h : wpX2_inState post px d p0) : zX s0 l D (zty cI cB cJ) yX2_inState cX2_inState 4 (some .int) 7 1 6 [.ref (dA 0), .int p0] (wD cI dA bA aA tA d) (fun u : Int32 => some (Value.int u)) (fun u : Int32 => post u) (fun _ : Int32 => wD cI dA bA aA tA d) px := by
  refine zX_intro (by decide +kernel) (Nat.le_of_ble_eq_true rfl) ?_
  intro p e s m below meth c A C hnt hA hG hP hD hS ls hl
  have C : zC D (zty cI cB cJ) p s m ([.ref (dA 0), .int p0] : List Value).toArray meth c cX2_inState RX2 (some .int) 4 := C
  have hx := C.1
  have hb := C.2.1
  have hts := C.2.2.1
  have hown := C.2.2.2.1
  have hml := C.2.2.2.2.2.1
  have hK := C.2.2.2.2.2.2.2
  have hl : lv_has ls 4 [(0, .ref (dA 0)), (1, .int p0)] := hl
  have hP : va_P D vwCl (wD cI dA bA aA tA d) s.heap := hP
  have hD : va_D A (wD cI dA bA aA tA d) := hD
  have k37 : ∀ (K10 : Int32 → Int32 → Prop) (hK10 : ∀ (x2 : Int32) (x3 : Int32) (H : Heap) (locs : List Loc), va_P D vwCl (wD cI dA bA aA tA d) H → va_D A (wD cI dA bA aA tA d) → va_S A s.heap H locs → ∀ (ls : Array Slot), lv_has ls 4 [(0, .ref (dA 0)), (1, .int p0), (2, .int x2), (3, .int x3)] → K10 x2 x3 → W p l e (zr 7 1 6) s m ([.ref (dA 0), .int p0] : List Value).toArray below meth c H locs 1 6 (vx_MQ below (zQ D (fun u : Int32 => some (Value.int u)) (fun u : Int32 => post u) (fun _ : Int32 => wD cI dA bA aA tA d) A) (zXC D px (wD cI dA bA aA tA d) A) ([.ref (dA 0), .int p0] : List Value).toArray s 1 6 A) (F0 m 10 ls [])), ∀ (x2 : Int32) (x3 : Int32) (H : Heap) (locs : List Loc), va_P D vwCl (wD cI dA bA aA tA d) H → va_D A (wD cI dA bA aA tA d) → va_S A s.heap H locs → ∀ (ls : Array Slot), lv_has ls 4 [(0, .ref (dA 0)), (1, .int p0), (2, .int x2), (3, .int x3)] → wpX2_inState_b37 post px d p0 K10 x2 x3 → W p l e (zr 7 1 6) s m ([.ref (dA 0), .int p0] : List Value).toArray below meth c H locs 1 6 (vx_MQ below (zQ D (fun u : Int32 => some (Value.int u)) (fun u : Int32 => post u) (fun _ : Int32 => wD cI dA bA aA tA d) A) (zXC D px (wD cI dA bA aA tA d) A) ([.ref (dA 0), .int p0] : List Value).toArray s 1 6 A) (F0 m 37 ls []) := by
    intro K10 hK10
    intro x2 x3 H locs hP hD hS ls hl h
    unfold wpX2_inState_b37 at h
    refine lv_iinc (v := (x3 + 1)) (lv' := [(3, .int (x3 + 1)), (0, .ref (dA 0)), (1, .int p0), (2, .int x2)]) hx hb dX2_inState_37 hl (k := 3) rfl (by first | rfl | decide) (by decide) rfl (fun ls hl => ?_)
    refine lv_goto (tgt := 10) hx hb dX2_inState_40 (by decide) ?_
    refine W.widen (k := 1) (n := 6) (Nat.le_of_ble_eq_true rfl) (Nat.le_of_ble_eq_true rfl) ?_
    exact hK10 x2 (x3 + 1)  _ _ hP hD hS _ (lv_sub hl [1, 2, 3, 0] rfl) h
  have k10 : ∀ (n : Nat) (x2 : Int32) (x3 : Int32) (H : Heap) (locs : List Loc), va_P D vwCl (wD cI dA bA aA tA d) H → va_D A (wD cI dA bA aA tA d) → va_S A s.heap H locs → ∀ (ls : Array Slot), lv_has ls 4 [(0, .ref (dA 0)), (1, .int p0), (2, .int x2), (3, .int x3)] → wpX2_inState_b10 post px d p0 n x2 x3 → W p l e (zr 7 1 6) s m ([.ref (dA 0), .int p0] : List Value).toArray below meth c H locs 1 6 (vx_MQ below (zQ D (fun u : Int32 => some (Value.int u)) (fun u : Int32 => post u) (fun _ : Int32 => wD cI dA bA aA tA d) A) (zXC D px (wD cI dA bA aA tA d) A) ([.ref (dA 0), .int p0] : List Value).toArray s 1 6 A) (F0 m 10 ls []) := by
    intro n
    induction n with
    | zero =>
      intro x2 x3 H locs hP hD hS ls hl h
      exact h.elim
    | succ n ih =>
      intro x2 x3 H locs hP hD hS ls hl h
      rw [wpX2_inState_b10] at h
      refine lv_iload_n hx hb dX2_inState_10 rfl (lv_at hl 3 rfl) ?_
      refine lv_aload_n hx hb dX2_inState_11 rfl (lv_at hl 0 rfl) ?_
      refine z_get C f_X2_10 hP (q0 := 0) rfl rfl dX2_inState_12 ?_
      refine z_get C f_X2_59 hP (q0 := 11) rfl rfl dX2_inState_15 ?_
      refine lv_icmp_ge (tgt := 43) hx hb dX2_inState_18 (by decide) (fun c18 => ?_) (fun c18 => ?_)
      · have h := h.1 c18
        refine lv_iload_n hx hb dX2_inState_43 rfl (lv_at hl 2 rfl) ?_
        exact vx_ret (zW_iret C x2 rfl h hP hD hS (Nat.le_of_ble_eq_true rfl) (Nat.le_of_ble_eq_true rfl) dX2_inState_44)
      · have h := h.2 c18
        refine lv_aload_n hx hb dX2_inState_21 rfl (lv_at hl 0 rfl) ?_
        refine z_get C f_X2_21 hP (q0 := 0) rfl rfl dX2_inState_22 ?_
        refine z_get C f_X2_89 hP (q0 := 1) rfl rfl dX2_inState_25 ?_
        refine lv_iload_n hx hb dX2_inState_28 rfl (lv_at hl 3 rfl) ?_
        obtain ⟨g9, h⟩ := h
        refine va_iald hx hb hK hP 3 0 rfl rfl g9 dX2_inState_29 ?_
        refine lv_iload_n hx hb dX2_inState_30 rfl (lv_at hl 1 rfl) ?_
        refine lv_icmp_ne (tgt := 37) hx hb dX2_inState_31 (by decide) (fun c31 => ?_) (fun c31 => ?_)
        · have h := h.2 c31
          refine W.widen (k := 1) (n := 6) (Nat.le_of_ble_eq_true rfl) (Nat.le_of_ble_eq_true rfl) ?_
          exact k37 _ ih x2 x3  _ _ hP hD hS _ (lv_sub hl [0, 1, 2, 3] rfl) h
        · have h := h.1 c31
          refine lv_iinc (v := (x2 + 1)) (lv' := [(2, .int (x2 + 1)), (0, .ref (dA 0)), (1, .int p0), (3, .int x3)]) hx hb dX2_inState_34 hl (k := 2) rfl (by first | rfl | decide) (by decide) rfl (fun ls hl => ?_)
          refine W.widen (k := 1) (n := 6) (Nat.le_of_ble_eq_true rfl) (Nat.le_of_ble_eq_true rfl) ?_
          exact k37 _ ih (x2 + 1) x3  _ _ hP hD hS _ (lv_sub hl [1, 2, 0, 3] rfl) h
  unfold wpX2_inState at h
  refine lv_iload_n hx hb dX2_inState_0 rfl (lv_at hl 1 rfl) ?_
  refine lv_iconst (v := 0) hx hb dX2_inState_1 (by decide) ?_
  refine lv_iconst (v := 5) hx hb dX2_inState_2 (by decide) ?_
  refine z_XS (As := [.int p0, .int 0, .int 5]) (rest := []) (wr := (List.filterMap (fun i => (wD cI dA bA aA tA d)[i]?) [0, 1, 2, 3, 4, 5, 6, 7, 8, 9, 10, 11, 12, 13, 14, 15, 16, 17, 18, 19, 20, 21])) (wN := (fun _ : Unit => wD cI dA bA aA tA d)) [] [0, 1, 2, 3, 4, 5, 6, 7, 8, 9, 10, 11, 12, 13, 14, 15, 16, 17, 18, 19, 20, 21] [0, 1, 2, 3, 4, 5, 6, 7, 8, 9, 10, 11, 12, 13, 14, 15, 16, 17, 18, 19, 20, 21] [0, 1, 2, 3, 4, 5, 6, 7, 8, 9, 10, 11, 12, 13, 14, 15, 16, 17, 18, 19, 20, 21] C hG hA hP hD hS (x_X2_requireWithin hfl hs0 D cI cB cJ p0 0 5 h) q205 v_X2_requireWithin rfl rfl ⟨by decide, by decide, by decide⟩ (by decide) (fun _ => rfl) rfl rfl ⟨(Nat.le_of_ble_eq_true rfl), (Nat.le_of_ble_eq_true rfl)⟩ ⟨(Nat.le_of_ble_eq_true rfl), (Nat.le_of_ble_eq_true rfl)⟩ hl.1 rfl (lv_room (Nat.le_of_ble_eq_true rfl)) dX2_inState_3 (fun E ce q9 H locs hE hP hS hce hcv hcl => zX_out C hnt hE hP hS hce hcv hcl (Nat.le_of_ble_eq_true rfl) (Nat.le_of_ble_eq_true rfl)) (fun _ H locs h hP hD hS => ?_)
  have hP : va_P D vwCl (wD cI dA bA aA tA d) H := hP
  have hD : va_D A (wD cI dA bA aA tA d) := hD
  refine lv_iconst (v := 0) hx hb dX2_inState_6 (by decide) ?_
  refine lv_istore_n (lv' := [(2, .int 0), (0, .ref (dA 0)), (1, .int p0)]) hx hb dX2_inState_7 rfl hl (by decide) rfl (fun ls hl => ?_)
  refine lv_iconst (v := 0) hx hb dX2_inState_8 (by decide) ?_
  refine lv_istore_n (lv' := [(3, .int 0), (2, .int 0), (0, .ref (dA 0)), (1, .int p0)]) hx hb dX2_inState_9 rfl hl (by decide) rfl (fun ls hl => ?_)
  refine W.widen (k := 1) (n := 6) (Nat.le_of_ble_eq_true rfl) (Nat.le_of_ble_eq_true rfl) ?_
  obtain ⟨n9, h⟩ := h
  exact k10 n9 0 0  _ _ hP hD hS _ (lv_sub hl [2, 3, 1, 0] rfl) h
def wpX2_purseOf (post : Int32 → Prop) (px : String → Prop) (d : DS) (p0 : Int32) : Prop := wpX2_requireParty (vp_in p0 6 ∧ (post (d.1.1 p0.toNatClampNeg))) px d p0
set_option maxHeartbeats 4000000 in
set_option maxRecDepth 100000 in
theorem c_X2_purseOf {l : Launch} (hfl : l.stackTraces = false) {s0 : State} (hs0 : zS s0) (D : va_G) (cI cB cJ : ClassId) (dA : Nat → Nat) (bA : Nat → Nat) (aA : Nat → Nat) (tA : Nat → Nat) (d : DS) (p0 : Int32) {post : Int32 → Prop} (h : wpX2_purseOf post (fun _ => False) d p0) : zR s0 l D (zty cI cB cJ) yX2_purseOf cX2_purseOf 2 (some .int) 2 [.ref (dA 0), .int p0] (wD cI dA bA aA tA d) (fun u : Int32 => some (Value.int u)) (fun u : Int32 => post u) := by
  refine zR_intro (by decide +kernel) (Nat.le_of_ble_eq_true rfl) ?_
  intro p e s m below meth c C hP hG ls hl
  have C : zC D (zty cI cB cJ) p s m ([.ref (dA 0), .int p0] : List Value).toArray meth c cX2_purseOf RX2 (some .int) 2 := C
  have hx := C.1
  have hb := C.2.1
  have hts := C.2.2.1
  have hown := C.2.2.2.1
  have hml := C.2.2.2.2.2.1
  have hK := C.2.2.2.2.2.2.2
  have hl : lv_has ls 2 [(0, .ref (dA 0)), (1, .int p0)] := hl
  unfold wpX2_purseOf at h
  refine lv_aload_n hx hb dX2_purseOf_0 rfl (lv_at hl 0 rfl) ?_
  refine lv_iload_n hx hb dX2_purseOf_1 rfl (lv_at hl 1 rfl) ?_
  refine z_RV (As := [.int p0]) (rest := []) [0, 1, 2, 3, 4, 5, 6, 7, 8, 9, 10, 11, 12, 13, 14, 15, 16, 17, 18, 19, 20, 21] C hG hP (c_X2_requireParty hfl hs0 D cI cB cJ dA bA aA tA d p0 h) q229 v_X2_requireParty rfl rfl rfl rfl ⟨(Nat.le_of_ble_eq_true rfl), (Nat.le_of_ble_eq_true rfl)⟩ ⟨(Nat.le_of_ble_eq_true rfl), (Nat.le_of_ble_eq_true rfl)⟩ hl.1 rfl (lv_room (Nat.le_of_ble_eq_true rfl)) dX2_purseOf_2 (fun u h => ?_)
  refine lv_aload_n hx hb dX2_purseOf_5 rfl (lv_at hl 0 rfl) ?_
  refine z_get C f_X2_21 hP (q0 := 0) rfl rfl dX2_purseOf_6 ?_
  refine z_get C f_X2_43 hP (q0 := 1) rfl rfl dX2_purseOf_9 ?_
  refine lv_iload_n hx hb dX2_purseOf_12 rfl (lv_at hl 1 rfl) ?_
  obtain ⟨g9, h⟩ := h
  refine va_iald hx hb hK hP 2 0 rfl rfl g9 dX2_purseOf_13 ?_
  exact zR_iret C (d.1.1 p0.toNatClampNeg) rfl h dX2_purseOf_14
set_option maxHeartbeats 4000000 in
set_option maxRecDepth 100000 in
theorem x_X2_purseOf {l : Launch} (hfl : l.stackTraces = false) {s0 : State} (hs0 : zS s0) (D : va_G) (cI cB cJ : ClassId) (dA : Nat → Nat) (bA : Nat → Nat) (aA : Nat → Nat) (tA : Nat → Nat) (d : DS) (p0 : Int32) {post : Int32 → Prop} {px : String → Prop} (h : wpX2_purseOf post px d p0) : zX s0 l D (zty cI cB cJ) yX2_purseOf cX2_purseOf 2 (some .int) 7 1 6 [.ref (dA 0), .int p0] (wD cI dA bA aA tA d) (fun u : Int32 => some (Value.int u)) (fun u : Int32 => post u) (fun _ : Int32 => wD cI dA bA aA tA d) px := by
  refine zX_intro (by decide +kernel) (Nat.le_of_ble_eq_true rfl) ?_
  intro p e s m below meth c A C hnt hA hG hP hD hS ls hl
  have C : zC D (zty cI cB cJ) p s m ([.ref (dA 0), .int p0] : List Value).toArray meth c cX2_purseOf RX2 (some .int) 2 := C
  have hx := C.1
  have hb := C.2.1
  have hts := C.2.2.1
  have hown := C.2.2.2.1
  have hml := C.2.2.2.2.2.1
  have hK := C.2.2.2.2.2.2.2
  have hl : lv_has ls 2 [(0, .ref (dA 0)), (1, .int p0)] := hl
  have hP : va_P D vwCl (wD cI dA bA aA tA d) s.heap := hP
  have hD : va_D A (wD cI dA bA aA tA d) := hD
  unfold wpX2_purseOf at h
  refine lv_aload_n hx hb dX2_purseOf_0 rfl (lv_at hl 0 rfl) ?_
  refine lv_iload_n hx hb dX2_purseOf_1 rfl (lv_at hl 1 rfl) ?_
  refine z_XV (As := [.int p0]) (rest := []) (wr := ([] : va_W)) (wN := (fun _ : Unit => wD cI dA bA aA tA d)) [0, 1, 2, 3, 4, 5, 6, 7, 8, 9, 10, 11, 12, 13, 14, 15, 16, 17, 18, 19, 20, 21] [] [0, 1, 2, 3, 4, 5, 6, 7, 8, 9, 10, 11, 12, 13, 14, 15, 16, 17, 18, 19, 20, 21] [0, 1, 2, 3, 4, 5, 6, 7, 8, 9, 10, 11, 12, 13, 14, 15, 16, 17, 18, 19, 20, 21] C hG hA hP hD hS (x_X2_requireParty hfl hs0 D cI cB cJ dA bA aA tA d p0 h) q229 v_X2_requireParty rfl rfl ⟨by decide, by decide, by decide⟩ (by decide) (fun _ => rfl) rfl rfl rfl rfl ⟨(Nat.le_of_ble_eq_true rfl), (Nat.le_of_ble_eq_true rfl)⟩ ⟨(Nat.le_of_ble_eq_true rfl), (Nat.le_of_ble_eq_true rfl)⟩ hl.1 rfl (lv_room (Nat.le_of_ble_eq_true rfl)) dX2_purseOf_2 (fun E ce q9 H locs hE hP hS hce hcv hcl => zX_out C hnt hE hP hS hce hcv hcl (Nat.le_of_ble_eq_true rfl) (Nat.le_of_ble_eq_true rfl)) (fun _ H locs h hP hD hS => ?_)
  have hP : va_P D vwCl (wD cI dA bA aA tA d) H := hP
  have hD : va_D A (wD cI dA bA aA tA d) := hD
  refine lv_aload_n hx hb dX2_purseOf_5 rfl (lv_at hl 0 rfl) ?_
  refine z_get C f_X2_21 hP (q0 := 0) rfl rfl dX2_purseOf_6 ?_
  refine z_get C f_X2_43 hP (q0 := 1) rfl rfl dX2_purseOf_9 ?_
  refine lv_iload_n hx hb dX2_purseOf_12 rfl (lv_at hl 1 rfl) ?_
  obtain ⟨g9, h⟩ := h
  refine va_iald hx hb hK hP 2 0 rfl rfl g9 dX2_purseOf_13 ?_
  exact vx_ret (zW_iret C (d.1.1 p0.toNatClampNeg) rfl h hP hD hS (Nat.le_of_ble_eq_true rfl) (Nat.le_of_ble_eq_true rfl) dX2_purseOf_14)
def wpX2_penalties (post : Int32 → Prop) (d : DS) : Prop := post d.1.2.2.2.2
set_option maxHeartbeats 4000000 in
set_option maxRecDepth 100000 in
theorem c_X2_penalties {l : Launch} (hfl : l.stackTraces = false) {s0 : State} (hs0 : zS s0) (D : va_G) (cI cB cJ : ClassId) (dA : Nat → Nat) (bA : Nat → Nat) (aA : Nat → Nat) (tA : Nat → Nat) (d : DS) {post : Int32 → Prop} (h : wpX2_penalties post d) : zR s0 l D (zty cI cB cJ) yX2_penalties cX2_penalties 1 (some .int) 1 [.ref (dA 0)] (wD cI dA bA aA tA d) (fun u : Int32 => some (Value.int u)) (fun u : Int32 => post u) := by
  refine zR_intro (by decide +kernel) (Nat.le_of_ble_eq_true rfl) ?_
  intro p e s m below meth c C hP hG ls hl
  have C : zC D (zty cI cB cJ) p s m ([.ref (dA 0)] : List Value).toArray meth c cX2_penalties RX2 (some .int) 1 := C
  have hx := C.1
  have hb := C.2.1
  have hts := C.2.2.1
  have hown := C.2.2.2.1
  have hml := C.2.2.2.2.2.1
  have hK := C.2.2.2.2.2.2.2
  have hl : lv_has ls 1 [(0, .ref (dA 0))] := hl
  unfold wpX2_penalties at h
  refine lv_aload_n hx hb dX2_penalties_0 rfl (lv_at hl 0 rfl) ?_
  refine z_get C f_X2_21 hP (q0 := 0) rfl rfl dX2_penalties_1 ?_
  refine z_get C f_X2_115 hP (q0 := 1) rfl rfl dX2_penalties_4 ?_
  exact zR_iret C d.1.2.2.2.2 rfl h dX2_penalties_7
def wpX2_stateOf (post : Int32 → Prop) (px : String → Prop) (d : DS) (p0 : Int32) : Prop := wpX2_requireDuty (vp_in p0 20 ∧ (post (d.1.2.1 p0.toNatClampNeg))) px d p0
set_option maxHeartbeats 4000000 in
set_option maxRecDepth 100000 in
theorem c_X2_stateOf {l : Launch} (hfl : l.stackTraces = false) {s0 : State} (hs0 : zS s0) (D : va_G) (cI cB cJ : ClassId) (dA : Nat → Nat) (bA : Nat → Nat) (aA : Nat → Nat) (tA : Nat → Nat) (d : DS) (p0 : Int32) {post : Int32 → Prop} (h : wpX2_stateOf post (fun _ => False) d p0) : zR s0 l D (zty cI cB cJ) yX2_stateOf cX2_stateOf 2 (some .int) 2 [.ref (dA 0), .int p0] (wD cI dA bA aA tA d) (fun u : Int32 => some (Value.int u)) (fun u : Int32 => post u) := by
  refine zR_intro (by decide +kernel) (Nat.le_of_ble_eq_true rfl) ?_
  intro p e s m below meth c C hP hG ls hl
  have C : zC D (zty cI cB cJ) p s m ([.ref (dA 0), .int p0] : List Value).toArray meth c cX2_stateOf RX2 (some .int) 2 := C
  have hx := C.1
  have hb := C.2.1
  have hts := C.2.2.1
  have hown := C.2.2.2.1
  have hml := C.2.2.2.2.2.1
  have hK := C.2.2.2.2.2.2.2
  have hl : lv_has ls 2 [(0, .ref (dA 0)), (1, .int p0)] := hl
  unfold wpX2_stateOf at h
  refine lv_aload_n hx hb dX2_stateOf_0 rfl (lv_at hl 0 rfl) ?_
  refine lv_iload_n hx hb dX2_stateOf_1 rfl (lv_at hl 1 rfl) ?_
  refine z_RV (As := [.int p0]) (rest := []) [0, 1, 2, 3, 4, 5, 6, 7, 8, 9, 10, 11, 12, 13, 14, 15, 16, 17, 18, 19, 20, 21] C hG hP (c_X2_requireDuty hfl hs0 D cI cB cJ dA bA aA tA d p0 h) q211 v_X2_requireDuty rfl rfl rfl rfl ⟨(Nat.le_of_ble_eq_true rfl), (Nat.le_of_ble_eq_true rfl)⟩ ⟨(Nat.le_of_ble_eq_true rfl), (Nat.le_of_ble_eq_true rfl)⟩ hl.1 rfl (lv_room (Nat.le_of_ble_eq_true rfl)) dX2_stateOf_2 (fun u h => ?_)
  refine lv_aload_n hx hb dX2_stateOf_5 rfl (lv_at hl 0 rfl) ?_
  refine z_get C f_X2_21 hP (q0 := 0) rfl rfl dX2_stateOf_6 ?_
  refine z_get C f_X2_89 hP (q0 := 1) rfl rfl dX2_stateOf_9 ?_
  refine lv_iload_n hx hb dX2_stateOf_12 rfl (lv_at hl 1 rfl) ?_
  obtain ⟨g9, h⟩ := h
  refine va_iald hx hb hK hP 3 0 rfl rfl g9 dX2_stateOf_13 ?_
  exact zR_iret C (d.1.2.1 p0.toNatClampNeg) rfl h dX2_stateOf_14
set_option maxHeartbeats 4000000 in
set_option maxRecDepth 100000 in
theorem x_X2_stateOf {l : Launch} (hfl : l.stackTraces = false) {s0 : State} (hs0 : zS s0) (D : va_G) (cI cB cJ : ClassId) (dA : Nat → Nat) (bA : Nat → Nat) (aA : Nat → Nat) (tA : Nat → Nat) (d : DS) (p0 : Int32) {post : Int32 → Prop} {px : String → Prop} (h : wpX2_stateOf post px d p0) : zX s0 l D (zty cI cB cJ) yX2_stateOf cX2_stateOf 2 (some .int) 7 1 6 [.ref (dA 0), .int p0] (wD cI dA bA aA tA d) (fun u : Int32 => some (Value.int u)) (fun u : Int32 => post u) (fun _ : Int32 => wD cI dA bA aA tA d) px := by
  refine zX_intro (by decide +kernel) (Nat.le_of_ble_eq_true rfl) ?_
  intro p e s m below meth c A C hnt hA hG hP hD hS ls hl
  have C : zC D (zty cI cB cJ) p s m ([.ref (dA 0), .int p0] : List Value).toArray meth c cX2_stateOf RX2 (some .int) 2 := C
  have hx := C.1
  have hb := C.2.1
  have hts := C.2.2.1
  have hown := C.2.2.2.1
  have hml := C.2.2.2.2.2.1
  have hK := C.2.2.2.2.2.2.2
  have hl : lv_has ls 2 [(0, .ref (dA 0)), (1, .int p0)] := hl
  have hP : va_P D vwCl (wD cI dA bA aA tA d) s.heap := hP
  have hD : va_D A (wD cI dA bA aA tA d) := hD
  unfold wpX2_stateOf at h
  refine lv_aload_n hx hb dX2_stateOf_0 rfl (lv_at hl 0 rfl) ?_
  refine lv_iload_n hx hb dX2_stateOf_1 rfl (lv_at hl 1 rfl) ?_
  refine z_XV (As := [.int p0]) (rest := []) (wr := ([] : va_W)) (wN := (fun _ : Unit => wD cI dA bA aA tA d)) [0, 1, 2, 3, 4, 5, 6, 7, 8, 9, 10, 11, 12, 13, 14, 15, 16, 17, 18, 19, 20, 21] [] [0, 1, 2, 3, 4, 5, 6, 7, 8, 9, 10, 11, 12, 13, 14, 15, 16, 17, 18, 19, 20, 21] [0, 1, 2, 3, 4, 5, 6, 7, 8, 9, 10, 11, 12, 13, 14, 15, 16, 17, 18, 19, 20, 21] C hG hA hP hD hS (x_X2_requireDuty hfl hs0 D cI cB cJ dA bA aA tA d p0 h) q211 v_X2_requireDuty rfl rfl ⟨by decide, by decide, by decide⟩ (by decide) (fun _ => rfl) rfl rfl rfl rfl ⟨(Nat.le_of_ble_eq_true rfl), (Nat.le_of_ble_eq_true rfl)⟩ ⟨(Nat.le_of_ble_eq_true rfl), (Nat.le_of_ble_eq_true rfl)⟩ hl.1 rfl (lv_room (Nat.le_of_ble_eq_true rfl)) dX2_stateOf_2 (fun E ce q9 H locs hE hP hS hce hcv hcl => zX_out C hnt hE hP hS hce hcv hcl (Nat.le_of_ble_eq_true rfl) (Nat.le_of_ble_eq_true rfl)) (fun _ H locs h hP hD hS => ?_)
  have hP : va_P D vwCl (wD cI dA bA aA tA d) H := hP
  have hD : va_D A (wD cI dA bA aA tA d) := hD
  refine lv_aload_n hx hb dX2_stateOf_5 rfl (lv_at hl 0 rfl) ?_
  refine z_get C f_X2_21 hP (q0 := 0) rfl rfl dX2_stateOf_6 ?_
  refine z_get C f_X2_89 hP (q0 := 1) rfl rfl dX2_stateOf_9 ?_
  refine lv_iload_n hx hb dX2_stateOf_12 rfl (lv_at hl 1 rfl) ?_
  obtain ⟨g9, h⟩ := h
  refine va_iald hx hb hK hP 3 0 rfl rfl g9 dX2_stateOf_13 ?_
  exact vx_ret (zW_iret C (d.1.2.1 p0.toNatClampNeg) rfl h hP hD hS (Nat.le_of_ble_eq_true rfl) (Nat.le_of_ble_eq_true rfl) dX2_stateOf_14)
def wpX2_daysLeft (post : Int32 → Prop) (px : String → Prop) (d : DS) (p0 : Int32) : Prop := wpX2_requireDuty (vp_in p0 20 ∧ (post (d.1.2.2.1 p0.toNatClampNeg))) px d p0
set_option maxHeartbeats 4000000 in
set_option maxRecDepth 100000 in
theorem c_X2_daysLeft {l : Launch} (hfl : l.stackTraces = false) {s0 : State} (hs0 : zS s0) (D : va_G) (cI cB cJ : ClassId) (dA : Nat → Nat) (bA : Nat → Nat) (aA : Nat → Nat) (tA : Nat → Nat) (d : DS) (p0 : Int32) {post : Int32 → Prop} (h : wpX2_daysLeft post (fun _ => False) d p0) : zR s0 l D (zty cI cB cJ) yX2_daysLeft cX2_daysLeft 2 (some .int) 2 [.ref (dA 0), .int p0] (wD cI dA bA aA tA d) (fun u : Int32 => some (Value.int u)) (fun u : Int32 => post u) := by
  refine zR_intro (by decide +kernel) (Nat.le_of_ble_eq_true rfl) ?_
  intro p e s m below meth c C hP hG ls hl
  have C : zC D (zty cI cB cJ) p s m ([.ref (dA 0), .int p0] : List Value).toArray meth c cX2_daysLeft RX2 (some .int) 2 := C
  have hx := C.1
  have hb := C.2.1
  have hts := C.2.2.1
  have hown := C.2.2.2.1
  have hml := C.2.2.2.2.2.1
  have hK := C.2.2.2.2.2.2.2
  have hl : lv_has ls 2 [(0, .ref (dA 0)), (1, .int p0)] := hl
  unfold wpX2_daysLeft at h
  refine lv_aload_n hx hb dX2_daysLeft_0 rfl (lv_at hl 0 rfl) ?_
  refine lv_iload_n hx hb dX2_daysLeft_1 rfl (lv_at hl 1 rfl) ?_
  refine z_RV (As := [.int p0]) (rest := []) [0, 1, 2, 3, 4, 5, 6, 7, 8, 9, 10, 11, 12, 13, 14, 15, 16, 17, 18, 19, 20, 21] C hG hP (c_X2_requireDuty hfl hs0 D cI cB cJ dA bA aA tA d p0 h) q211 v_X2_requireDuty rfl rfl rfl rfl ⟨(Nat.le_of_ble_eq_true rfl), (Nat.le_of_ble_eq_true rfl)⟩ ⟨(Nat.le_of_ble_eq_true rfl), (Nat.le_of_ble_eq_true rfl)⟩ hl.1 rfl (lv_room (Nat.le_of_ble_eq_true rfl)) dX2_daysLeft_2 (fun u h => ?_)
  refine lv_aload_n hx hb dX2_daysLeft_5 rfl (lv_at hl 0 rfl) ?_
  refine z_get C f_X2_21 hP (q0 := 0) rfl rfl dX2_daysLeft_6 ?_
  refine z_get C f_X2_118 hP (q0 := 1) rfl rfl dX2_daysLeft_9 ?_
  refine lv_iload_n hx hb dX2_daysLeft_12 rfl (lv_at hl 1 rfl) ?_
  obtain ⟨g9, h⟩ := h
  refine va_iald hx hb hK hP 4 0 rfl rfl g9 dX2_daysLeft_13 ?_
  exact zR_iret C (d.1.2.2.1 p0.toNatClampNeg) rfl h dX2_daysLeft_14
set_option maxHeartbeats 4000000 in
set_option maxRecDepth 100000 in
theorem x_X2_daysLeft {l : Launch} (hfl : l.stackTraces = false) {s0 : State} (hs0 : zS s0) (D : va_G) (cI cB cJ : ClassId) (dA : Nat → Nat) (bA : Nat → Nat) (aA : Nat → Nat) (tA : Nat → Nat) (d : DS) (p0 : Int32) {post : Int32 → Prop} {px : String → Prop} (h : wpX2_daysLeft post px d p0) : zX s0 l D (zty cI cB cJ) yX2_daysLeft cX2_daysLeft 2 (some .int) 7 1 6 [.ref (dA 0), .int p0] (wD cI dA bA aA tA d) (fun u : Int32 => some (Value.int u)) (fun u : Int32 => post u) (fun _ : Int32 => wD cI dA bA aA tA d) px := by
  refine zX_intro (by decide +kernel) (Nat.le_of_ble_eq_true rfl) ?_
  intro p e s m below meth c A C hnt hA hG hP hD hS ls hl
  have C : zC D (zty cI cB cJ) p s m ([.ref (dA 0), .int p0] : List Value).toArray meth c cX2_daysLeft RX2 (some .int) 2 := C
  have hx := C.1
  have hb := C.2.1
  have hts := C.2.2.1
  have hown := C.2.2.2.1
  have hml := C.2.2.2.2.2.1
  have hK := C.2.2.2.2.2.2.2
  have hl : lv_has ls 2 [(0, .ref (dA 0)), (1, .int p0)] := hl
  have hP : va_P D vwCl (wD cI dA bA aA tA d) s.heap := hP
  have hD : va_D A (wD cI dA bA aA tA d) := hD
  unfold wpX2_daysLeft at h
  refine lv_aload_n hx hb dX2_daysLeft_0 rfl (lv_at hl 0 rfl) ?_
  refine lv_iload_n hx hb dX2_daysLeft_1 rfl (lv_at hl 1 rfl) ?_
  refine z_XV (As := [.int p0]) (rest := []) (wr := ([] : va_W)) (wN := (fun _ : Unit => wD cI dA bA aA tA d)) [0, 1, 2, 3, 4, 5, 6, 7, 8, 9, 10, 11, 12, 13, 14, 15, 16, 17, 18, 19, 20, 21] [] [0, 1, 2, 3, 4, 5, 6, 7, 8, 9, 10, 11, 12, 13, 14, 15, 16, 17, 18, 19, 20, 21] [0, 1, 2, 3, 4, 5, 6, 7, 8, 9, 10, 11, 12, 13, 14, 15, 16, 17, 18, 19, 20, 21] C hG hA hP hD hS (x_X2_requireDuty hfl hs0 D cI cB cJ dA bA aA tA d p0 h) q211 v_X2_requireDuty rfl rfl ⟨by decide, by decide, by decide⟩ (by decide) (fun _ => rfl) rfl rfl rfl rfl ⟨(Nat.le_of_ble_eq_true rfl), (Nat.le_of_ble_eq_true rfl)⟩ ⟨(Nat.le_of_ble_eq_true rfl), (Nat.le_of_ble_eq_true rfl)⟩ hl.1 rfl (lv_room (Nat.le_of_ble_eq_true rfl)) dX2_daysLeft_2 (fun E ce q9 H locs hE hP hS hce hcv hcl => zX_out C hnt hE hP hS hce hcv hcl (Nat.le_of_ble_eq_true rfl) (Nat.le_of_ble_eq_true rfl)) (fun _ H locs h hP hD hS => ?_)
  have hP : va_P D vwCl (wD cI dA bA aA tA d) H := hP
  have hD : va_D A (wD cI dA bA aA tA d) := hD
  refine lv_aload_n hx hb dX2_daysLeft_5 rfl (lv_at hl 0 rfl) ?_
  refine z_get C f_X2_21 hP (q0 := 0) rfl rfl dX2_daysLeft_6 ?_
  refine z_get C f_X2_118 hP (q0 := 1) rfl rfl dX2_daysLeft_9 ?_
  refine lv_iload_n hx hb dX2_daysLeft_12 rfl (lv_at hl 1 rfl) ?_
  obtain ⟨g9, h⟩ := h
  refine va_iald hx hb hK hP 4 0 rfl rfl g9 dX2_daysLeft_13 ?_
  exact vx_ret (zW_iret C (d.1.2.2.1 p0.toNatClampNeg) rfl h hP hD hS (Nat.le_of_ble_eq_true rfl) (Nat.le_of_ble_eq_true rfl) dX2_daysLeft_14)
def wpX2_stoppedFor (post : Int32 → Prop) (px : String → Prop) (d : DS) (p0 : Int32) : Prop := wpX2_requireDuty (vp_in p0 20 ∧ (post (d.1.2.2.2.1 p0.toNatClampNeg))) px d p0
set_option maxHeartbeats 4000000 in
set_option maxRecDepth 100000 in
theorem c_X2_stoppedFor {l : Launch} (hfl : l.stackTraces = false) {s0 : State} (hs0 : zS s0) (D : va_G) (cI cB cJ : ClassId) (dA : Nat → Nat) (bA : Nat → Nat) (aA : Nat → Nat) (tA : Nat → Nat) (d : DS) (p0 : Int32) {post : Int32 → Prop} (h : wpX2_stoppedFor post (fun _ => False) d p0) : zR s0 l D (zty cI cB cJ) yX2_stoppedFor cX2_stoppedFor 2 (some .int) 2 [.ref (dA 0), .int p0] (wD cI dA bA aA tA d) (fun u : Int32 => some (Value.int u)) (fun u : Int32 => post u) := by
  refine zR_intro (by decide +kernel) (Nat.le_of_ble_eq_true rfl) ?_
  intro p e s m below meth c C hP hG ls hl
  have C : zC D (zty cI cB cJ) p s m ([.ref (dA 0), .int p0] : List Value).toArray meth c cX2_stoppedFor RX2 (some .int) 2 := C
  have hx := C.1
  have hb := C.2.1
  have hts := C.2.2.1
  have hown := C.2.2.2.1
  have hml := C.2.2.2.2.2.1
  have hK := C.2.2.2.2.2.2.2
  have hl : lv_has ls 2 [(0, .ref (dA 0)), (1, .int p0)] := hl
  unfold wpX2_stoppedFor at h
  refine lv_aload_n hx hb dX2_stoppedFor_0 rfl (lv_at hl 0 rfl) ?_
  refine lv_iload_n hx hb dX2_stoppedFor_1 rfl (lv_at hl 1 rfl) ?_
  refine z_RV (As := [.int p0]) (rest := []) [0, 1, 2, 3, 4, 5, 6, 7, 8, 9, 10, 11, 12, 13, 14, 15, 16, 17, 18, 19, 20, 21] C hG hP (c_X2_requireDuty hfl hs0 D cI cB cJ dA bA aA tA d p0 h) q211 v_X2_requireDuty rfl rfl rfl rfl ⟨(Nat.le_of_ble_eq_true rfl), (Nat.le_of_ble_eq_true rfl)⟩ ⟨(Nat.le_of_ble_eq_true rfl), (Nat.le_of_ble_eq_true rfl)⟩ hl.1 rfl (lv_room (Nat.le_of_ble_eq_true rfl)) dX2_stoppedFor_2 (fun u h => ?_)
  refine lv_aload_n hx hb dX2_stoppedFor_5 rfl (lv_at hl 0 rfl) ?_
  refine z_get C f_X2_21 hP (q0 := 0) rfl rfl dX2_stoppedFor_6 ?_
  refine z_get C f_X2_106 hP (q0 := 1) rfl rfl dX2_stoppedFor_9 ?_
  refine lv_iload_n hx hb dX2_stoppedFor_12 rfl (lv_at hl 1 rfl) ?_
  obtain ⟨g9, h⟩ := h
  refine va_iald hx hb hK hP 5 0 rfl rfl g9 dX2_stoppedFor_13 ?_
  exact zR_iret C (d.1.2.2.2.1 p0.toNatClampNeg) rfl h dX2_stoppedFor_14
set_option maxHeartbeats 4000000 in
set_option maxRecDepth 100000 in
theorem x_X2_stoppedFor {l : Launch} (hfl : l.stackTraces = false) {s0 : State} (hs0 : zS s0) (D : va_G) (cI cB cJ : ClassId) (dA : Nat → Nat) (bA : Nat → Nat) (aA : Nat → Nat) (tA : Nat → Nat) (d : DS) (p0 : Int32) {post : Int32 → Prop} {px : String → Prop} (h : wpX2_stoppedFor post px d p0) : zX s0 l D (zty cI cB cJ) yX2_stoppedFor cX2_stoppedFor 2 (some .int) 7 1 6 [.ref (dA 0), .int p0] (wD cI dA bA aA tA d) (fun u : Int32 => some (Value.int u)) (fun u : Int32 => post u) (fun _ : Int32 => wD cI dA bA aA tA d) px := by
  refine zX_intro (by decide +kernel) (Nat.le_of_ble_eq_true rfl) ?_
  intro p e s m below meth c A C hnt hA hG hP hD hS ls hl
  have C : zC D (zty cI cB cJ) p s m ([.ref (dA 0), .int p0] : List Value).toArray meth c cX2_stoppedFor RX2 (some .int) 2 := C
  have hx := C.1
  have hb := C.2.1
  have hts := C.2.2.1
  have hown := C.2.2.2.1
  have hml := C.2.2.2.2.2.1
  have hK := C.2.2.2.2.2.2.2
  have hl : lv_has ls 2 [(0, .ref (dA 0)), (1, .int p0)] := hl
  have hP : va_P D vwCl (wD cI dA bA aA tA d) s.heap := hP
  have hD : va_D A (wD cI dA bA aA tA d) := hD
  unfold wpX2_stoppedFor at h
  refine lv_aload_n hx hb dX2_stoppedFor_0 rfl (lv_at hl 0 rfl) ?_
  refine lv_iload_n hx hb dX2_stoppedFor_1 rfl (lv_at hl 1 rfl) ?_
  refine z_XV (As := [.int p0]) (rest := []) (wr := ([] : va_W)) (wN := (fun _ : Unit => wD cI dA bA aA tA d)) [0, 1, 2, 3, 4, 5, 6, 7, 8, 9, 10, 11, 12, 13, 14, 15, 16, 17, 18, 19, 20, 21] [] [0, 1, 2, 3, 4, 5, 6, 7, 8, 9, 10, 11, 12, 13, 14, 15, 16, 17, 18, 19, 20, 21] [0, 1, 2, 3, 4, 5, 6, 7, 8, 9, 10, 11, 12, 13, 14, 15, 16, 17, 18, 19, 20, 21] C hG hA hP hD hS (x_X2_requireDuty hfl hs0 D cI cB cJ dA bA aA tA d p0 h) q211 v_X2_requireDuty rfl rfl ⟨by decide, by decide, by decide⟩ (by decide) (fun _ => rfl) rfl rfl rfl rfl ⟨(Nat.le_of_ble_eq_true rfl), (Nat.le_of_ble_eq_true rfl)⟩ ⟨(Nat.le_of_ble_eq_true rfl), (Nat.le_of_ble_eq_true rfl)⟩ hl.1 rfl (lv_room (Nat.le_of_ble_eq_true rfl)) dX2_stoppedFor_2 (fun E ce q9 H locs hE hP hS hce hcv hcl => zX_out C hnt hE hP hS hce hcv hcl (Nat.le_of_ble_eq_true rfl) (Nat.le_of_ble_eq_true rfl)) (fun _ H locs h hP hD hS => ?_)
  have hP : va_P D vwCl (wD cI dA bA aA tA d) H := hP
  have hD : va_D A (wD cI dA bA aA tA d) := hD
  refine lv_aload_n hx hb dX2_stoppedFor_5 rfl (lv_at hl 0 rfl) ?_
  refine z_get C f_X2_21 hP (q0 := 0) rfl rfl dX2_stoppedFor_6 ?_
  refine z_get C f_X2_106 hP (q0 := 1) rfl rfl dX2_stoppedFor_9 ?_
  refine lv_iload_n hx hb dX2_stoppedFor_12 rfl (lv_at hl 1 rfl) ?_
  obtain ⟨g9, h⟩ := h
  refine va_iald hx hb hK hP 5 0 rfl rfl g9 dX2_stoppedFor_13 ?_
  exact vx_ret (zW_iret C (d.1.2.2.2.1 p0.toNatClampNeg) rfl h hP hD hS (Nat.le_of_ble_eq_true rfl) (Nat.le_of_ble_eq_true rfl) dX2_stoppedFor_14)
def wpX2_priceOf (post : Int32 → Prop) (px : String → Prop) (d : DS) (p0 : Int32) : Prop := wpX2_requireDuty (wpX0_price (fun r10 => post r10) d.2.2.1 d.1 p0) px d p0
set_option maxHeartbeats 4000000 in
set_option maxRecDepth 100000 in
theorem c_X2_priceOf {l : Launch} (hfl : l.stackTraces = false) {s0 : State} (hs0 : zS s0) (D : va_G) (cI cB cJ : ClassId) (dA : Nat → Nat) (bA : Nat → Nat) (aA : Nat → Nat) (tA : Nat → Nat) (d : DS) (p0 : Int32) {post : Int32 → Prop} (h : wpX2_priceOf post (fun _ => False) d p0) : zR s0 l D (zty cI cB cJ) yX2_priceOf cX2_priceOf 2 (some .int) 2 [.ref (dA 0), .int p0] (wD cI dA bA aA tA d) (fun u : Int32 => some (Value.int u)) (fun u : Int32 => post u) := by
  refine zR_intro (by decide +kernel) (Nat.le_of_ble_eq_true rfl) ?_
  intro p e s m below meth c C hP hG ls hl
  have C : zC D (zty cI cB cJ) p s m ([.ref (dA 0), .int p0] : List Value).toArray meth c cX2_priceOf RX2 (some .int) 2 := C
  have hx := C.1
  have hb := C.2.1
  have hts := C.2.2.1
  have hown := C.2.2.2.1
  have hml := C.2.2.2.2.2.1
  have hK := C.2.2.2.2.2.2.2
  have hl : lv_has ls 2 [(0, .ref (dA 0)), (1, .int p0)] := hl
  unfold wpX2_priceOf at h
  refine lv_aload_n hx hb dX2_priceOf_0 rfl (lv_at hl 0 rfl) ?_
  refine lv_iload_n hx hb dX2_priceOf_1 rfl (lv_at hl 1 rfl) ?_
  refine z_RV (As := [.int p0]) (rest := []) [0, 1, 2, 3, 4, 5, 6, 7, 8, 9, 10, 11, 12, 13, 14, 15, 16, 17, 18, 19, 20, 21] C hG hP (c_X2_requireDuty hfl hs0 D cI cB cJ dA bA aA tA d p0 h) q211 v_X2_requireDuty rfl rfl rfl rfl ⟨(Nat.le_of_ble_eq_true rfl), (Nat.le_of_ble_eq_true rfl)⟩ ⟨(Nat.le_of_ble_eq_true rfl), (Nat.le_of_ble_eq_true rfl)⟩ hl.1 rfl (lv_room (Nat.le_of_ble_eq_true rfl)) dX2_priceOf_2 (fun u h => ?_)
  refine lv_aload_n hx hb dX2_priceOf_5 rfl (lv_at hl 0 rfl) ?_
  refine z_get C f_X2_21 hP (q0 := 0) rfl rfl dX2_priceOf_6 ?_
  refine lv_iload_n hx hb dX2_priceOf_9 rfl (lv_at hl 1 rfl) ?_
  refine z_RV (As := [.int p0]) (rest := []) [1, 2, 3, 4, 5, 11, 12, 13, 14, 15, 16, 17, 18, 19, 20, 21] C hG hP (c_X0_price hfl hs0 D cI cB cJ bA tA d.2.2.1 d.1 p0 h) q216 v_X0_price rfl rfl rfl rfl ⟨(Nat.le_of_ble_eq_true rfl), (Nat.le_of_ble_eq_true rfl)⟩ ⟨(Nat.le_of_ble_eq_true rfl), (Nat.le_of_ble_eq_true rfl)⟩ hl.1 rfl (lv_room (Nat.le_of_ble_eq_true rfl)) dX2_priceOf_10 (fun r10 h => ?_)
  exact zR_iret C r10 rfl h dX2_priceOf_13
set_option maxHeartbeats 4000000 in
set_option maxRecDepth 100000 in
theorem x_X2_priceOf {l : Launch} (hfl : l.stackTraces = false) {s0 : State} (hs0 : zS s0) (D : va_G) (cI cB cJ : ClassId) (dA : Nat → Nat) (bA : Nat → Nat) (aA : Nat → Nat) (tA : Nat → Nat) (d : DS) (p0 : Int32) {post : Int32 → Prop} {px : String → Prop} (h : wpX2_priceOf post px d p0) : zX s0 l D (zty cI cB cJ) yX2_priceOf cX2_priceOf 2 (some .int) 7 1 6 [.ref (dA 0), .int p0] (wD cI dA bA aA tA d) (fun u : Int32 => some (Value.int u)) (fun u : Int32 => post u) (fun _ : Int32 => wD cI dA bA aA tA d) px := by
  refine zX_intro (by decide +kernel) (Nat.le_of_ble_eq_true rfl) ?_
  intro p e s m below meth c A C hnt hA hG hP hD hS ls hl
  have C : zC D (zty cI cB cJ) p s m ([.ref (dA 0), .int p0] : List Value).toArray meth c cX2_priceOf RX2 (some .int) 2 := C
  have hx := C.1
  have hb := C.2.1
  have hts := C.2.2.1
  have hown := C.2.2.2.1
  have hml := C.2.2.2.2.2.1
  have hK := C.2.2.2.2.2.2.2
  have hl : lv_has ls 2 [(0, .ref (dA 0)), (1, .int p0)] := hl
  have hP : va_P D vwCl (wD cI dA bA aA tA d) s.heap := hP
  have hD : va_D A (wD cI dA bA aA tA d) := hD
  unfold wpX2_priceOf at h
  refine lv_aload_n hx hb dX2_priceOf_0 rfl (lv_at hl 0 rfl) ?_
  refine lv_iload_n hx hb dX2_priceOf_1 rfl (lv_at hl 1 rfl) ?_
  refine z_XV (As := [.int p0]) (rest := []) (wr := ([] : va_W)) (wN := (fun _ : Unit => wD cI dA bA aA tA d)) [0, 1, 2, 3, 4, 5, 6, 7, 8, 9, 10, 11, 12, 13, 14, 15, 16, 17, 18, 19, 20, 21] [] [0, 1, 2, 3, 4, 5, 6, 7, 8, 9, 10, 11, 12, 13, 14, 15, 16, 17, 18, 19, 20, 21] [0, 1, 2, 3, 4, 5, 6, 7, 8, 9, 10, 11, 12, 13, 14, 15, 16, 17, 18, 19, 20, 21] C hG hA hP hD hS (x_X2_requireDuty hfl hs0 D cI cB cJ dA bA aA tA d p0 h) q211 v_X2_requireDuty rfl rfl ⟨by decide, by decide, by decide⟩ (by decide) (fun _ => rfl) rfl rfl rfl rfl ⟨(Nat.le_of_ble_eq_true rfl), (Nat.le_of_ble_eq_true rfl)⟩ ⟨(Nat.le_of_ble_eq_true rfl), (Nat.le_of_ble_eq_true rfl)⟩ hl.1 rfl (lv_room (Nat.le_of_ble_eq_true rfl)) dX2_priceOf_2 (fun E ce q9 H locs hE hP hS hce hcv hcl => zX_out C hnt hE hP hS hce hcv hcl (Nat.le_of_ble_eq_true rfl) (Nat.le_of_ble_eq_true rfl)) (fun _ H locs h hP hD hS => ?_)
  have hP : va_P D vwCl (wD cI dA bA aA tA d) H := hP
  have hD : va_D A (wD cI dA bA aA tA d) := hD
  refine lv_aload_n hx hb dX2_priceOf_5 rfl (lv_at hl 0 rfl) ?_
  refine z_get C f_X2_21 hP (q0 := 0) rfl rfl dX2_priceOf_6 ?_
  refine lv_iload_n hx hb dX2_priceOf_9 rfl (lv_at hl 1 rfl) ?_
  refine z_RV (As := [.int p0]) (rest := []) [1, 2, 3, 4, 5, 11, 12, 13, 14, 15, 16, 17, 18, 19, 20, 21] C (hG.kept hS.1 hS.2.1).none hP (c_X0_price hfl hs0 D cI cB cJ bA tA d.2.2.1 d.1 p0 h) q216 v_X0_price rfl rfl rfl rfl ⟨(Nat.le_of_ble_eq_true rfl), (Nat.le_of_ble_eq_true rfl)⟩ ⟨(Nat.le_of_ble_eq_true rfl), (Nat.le_of_ble_eq_true rfl)⟩ hl.1 rfl (lv_room (Nat.le_of_ble_eq_true rfl)) dX2_priceOf_10 (fun r10 h => ?_)
  exact vx_ret (zW_iret C r10 rfl h hP hD hS (Nat.le_of_ble_eq_true rfl) (Nat.le_of_ble_eq_true rfl) dX2_priceOf_13)
def wpX2_hanging_b37 (post : Int32 → Prop) (px : String → Prop) (d : DS) (p0 : Int32) (K11 : Int32 → Int32 → Prop) (x2 : Int32) (x3 : Int32) : Prop := K11 x2 (x3 + 1)
def wpX2_hanging_b11 (post : Int32 → Prop) (px : String → Prop) (d : DS) (p0 : Int32) : Nat → Int32 → Int32 → Prop
  | 0, _, _ => False
  | n + 1, x2, x3 => (d.2.2.1.2.2.2.2.2.2.2.2.2.2 ≤ x3 → post x2) ∧ (¬ d.2.2.1.2.2.2.2.2.2.2.2.2.2 ≤ x3 → wpX1_hangsSomehowOn (fun r28 => (r28 = 0 → wpX2_hanging_b37 post px d p0 (fun z0 z1 => wpX2_hanging_b11 post px d p0 n z0 z1) x2 x3) ∧ (¬ r28 = 0 → wpX2_hanging_b37 post px d p0 (fun z0 z1 => wpX2_hanging_b11 post px d p0 n z0 z1) (x2 + 1) x3)) d.2.2.1 x3 p0)
def wpX2_hanging (post : Int32 → Prop) (px : String → Prop) (d : DS) (p0 : Int32) : Prop := wpX2_requireDuty (∃ n11 : Nat, wpX2_hanging_b11 post px d p0 n11 0 (p0 + 1)) px d p0
set_option maxHeartbeats 4000000 in
set_option maxRecDepth 100000 in
theorem c_X2_hanging {l : Launch} (hfl : l.stackTraces = false) {s0 : State} (hs0 : zS s0) (D : va_G) (cI cB cJ : ClassId) (dA : Nat → Nat) (bA : Nat → Nat) (aA : Nat → Nat) (tA : Nat → Nat) (d : DS) (p0 : Int32) {post : Int32 → Prop} (h : wpX2_hanging post (fun _ => False) d p0) : zR s0 l D (zty cI cB cJ) yX2_hanging cX2_hanging 4 (some .int) 2 [.ref (dA 0), .int p0] (wD cI dA bA aA tA d) (fun u : Int32 => some (Value.int u)) (fun u : Int32 => post u) := by
  refine zR_intro (by decide +kernel) (Nat.le_of_ble_eq_true rfl) ?_
  intro p e s m below meth c C hP hG ls hl
  have C : zC D (zty cI cB cJ) p s m ([.ref (dA 0), .int p0] : List Value).toArray meth c cX2_hanging RX2 (some .int) 4 := C
  have hx := C.1
  have hb := C.2.1
  have hts := C.2.2.1
  have hown := C.2.2.2.1
  have hml := C.2.2.2.2.2.1
  have hK := C.2.2.2.2.2.2.2
  have hl : lv_has ls 4 [(0, .ref (dA 0)), (1, .int p0)] := hl
  have k37 : ∀ (K11 : Int32 → Int32 → Prop) (hK11 : ∀ (x2 : Int32) (x3 : Int32) (ls : Array Slot), lv_has ls 4 [(0, .ref (dA 0)), (1, .int p0), (2, .int x2), (3, .int x3)] → K11 x2 x3 → W p l e (zr 2 0 0) s m ([.ref (dA 0), .int p0] : List Value).toArray below meth c s.heap [] 0 0 (MQ below (zQr (fun u : Int32 => some (Value.int u)) (fun u : Int32 => post u)) ([.ref (dA 0), .int p0] : List Value).toArray s 0 0 (fun _ => False)) (F0 m 11 ls [])), ∀ (x2 : Int32) (x3 : Int32) (ls : Array Slot), lv_has ls 4 [(0, .ref (dA 0)), (1, .int p0), (2, .int x2), (3, .int x3)] → wpX2_hanging_b37 post (fun _ : String => False) d p0 K11 x2 x3 → W p l e (zr 2 0 0) s m ([.ref (dA 0), .int p0] : List Value).toArray below meth c s.heap [] 0 0 (MQ below (zQr (fun u : Int32 => some (Value.int u)) (fun u : Int32 => post u)) ([.ref (dA 0), .int p0] : List Value).toArray s 0 0 (fun _ => False)) (F0 m 37 ls []) := by
    intro K11 hK11
    intro x2 x3 ls hl h
    unfold wpX2_hanging_b37 at h
    refine lv_iinc (v := (x3 + 1)) (lv' := [(3, .int (x3 + 1)), (0, .ref (dA 0)), (1, .int p0), (2, .int x2)]) hx hb dX2_hanging_37 hl (k := 3) rfl (by first | rfl | decide) (by decide) rfl (fun ls hl => ?_)
    refine lv_goto (tgt := 11) hx hb dX2_hanging_40 (by decide) ?_
    exact hK11 x2 (x3 + 1)  _ (lv_sub hl [1, 2, 3, 0] rfl) h
  have k11 : ∀ (n : Nat) (x2 : Int32) (x3 : Int32) (ls : Array Slot), lv_has ls 4 [(0, .ref (dA 0)), (1, .int p0), (2, .int x2), (3, .int x3)] → wpX2_hanging_b11 post (fun _ : String => False) d p0 n x2 x3 → W p l e (zr 2 0 0) s m ([.ref (dA 0), .int p0] : List Value).toArray below meth c s.heap [] 0 0 (MQ below (zQr (fun u : Int32 => some (Value.int u)) (fun u : Int32 => post u)) ([.ref (dA 0), .int p0] : List Value).toArray s 0 0 (fun _ => False)) (F0 m 11 ls []) := by
    intro n
    induction n with
    | zero =>
      intro x2 x3 ls hl h
      exact h.elim
    | succ n ih =>
      intro x2 x3 ls hl h
      rw [wpX2_hanging_b11] at h
      refine lv_iload_n hx hb dX2_hanging_11 rfl (lv_at hl 3 rfl) ?_
      refine lv_aload_n hx hb dX2_hanging_12 rfl (lv_at hl 0 rfl) ?_
      refine z_get C f_X2_10 hP (q0 := 0) rfl rfl dX2_hanging_13 ?_
      refine z_get C f_X2_59 hP (q0 := 11) rfl rfl dX2_hanging_16 ?_
      refine lv_icmp_ge (tgt := 43) hx hb dX2_hanging_19 (by decide) (fun c19 => ?_) (fun c19 => ?_)
      · have h := h.1 c19
        refine lv_iload_n hx hb dX2_hanging_43 rfl (lv_at hl 2 rfl) ?_
        exact zR_iret C x2 rfl h dX2_hanging_44
      · have h := h.2 c19
        refine lv_aload_n hx hb dX2_hanging_22 rfl (lv_at hl 0 rfl) ?_
        refine z_get C f_X2_10 hP (q0 := 0) rfl rfl dX2_hanging_23 ?_
        refine lv_iload_n hx hb dX2_hanging_26 rfl (lv_at hl 3 rfl) ?_
        refine lv_iload_n hx hb dX2_hanging_27 rfl (lv_at hl 1 rfl) ?_
        refine z_RV (As := [.int x3, .int p0]) (rest := []) [11, 12, 13, 14, 15, 16, 17, 18, 19, 20, 21] C hG hP (c_X1_hangsSomehowOn hfl hs0 D cI cB cJ tA d.2.2.1 x3 p0 h) q241 v_X1_hangsSomehowOn rfl rfl rfl rfl ⟨(Nat.le_of_ble_eq_true rfl), (Nat.le_of_ble_eq_true rfl)⟩ ⟨(Nat.le_of_ble_eq_true rfl), (Nat.le_of_ble_eq_true rfl)⟩ hl.1 rfl (lv_room (Nat.le_of_ble_eq_true rfl)) dX2_hanging_28 (fun r28 h => ?_)
        refine lv_if_eq (tgt := 37) hx hb dX2_hanging_31 (by decide) (fun c31 => ?_) (fun c31 => ?_)
        · have h := h.1 c31
          exact k37 _ ih x2 x3  _ (lv_sub hl [0, 1, 2, 3] rfl) h
        · have h := h.2 c31
          refine lv_iinc (v := (x2 + 1)) (lv' := [(2, .int (x2 + 1)), (0, .ref (dA 0)), (1, .int p0), (3, .int x3)]) hx hb dX2_hanging_34 hl (k := 2) rfl (by first | rfl | decide) (by decide) rfl (fun ls hl => ?_)
          exact k37 _ ih (x2 + 1) x3  _ (lv_sub hl [1, 2, 0, 3] rfl) h
  unfold wpX2_hanging at h
  refine lv_aload_n hx hb dX2_hanging_0 rfl (lv_at hl 0 rfl) ?_
  refine lv_iload_n hx hb dX2_hanging_1 rfl (lv_at hl 1 rfl) ?_
  refine z_RV (As := [.int p0]) (rest := []) [0, 1, 2, 3, 4, 5, 6, 7, 8, 9, 10, 11, 12, 13, 14, 15, 16, 17, 18, 19, 20, 21] C hG hP (c_X2_requireDuty hfl hs0 D cI cB cJ dA bA aA tA d p0 h) q211 v_X2_requireDuty rfl rfl rfl rfl ⟨(Nat.le_of_ble_eq_true rfl), (Nat.le_of_ble_eq_true rfl)⟩ ⟨(Nat.le_of_ble_eq_true rfl), (Nat.le_of_ble_eq_true rfl)⟩ hl.1 rfl (lv_room (Nat.le_of_ble_eq_true rfl)) dX2_hanging_2 (fun u h => ?_)
  refine lv_iconst (v := 0) hx hb dX2_hanging_5 (by decide) ?_
  refine lv_istore_n (lv' := [(2, .int 0), (0, .ref (dA 0)), (1, .int p0)]) hx hb dX2_hanging_6 rfl hl (by decide) rfl (fun ls hl => ?_)
  refine lv_iload_n hx hb dX2_hanging_7 rfl (lv_at hl 2 rfl) ?_
  refine lv_iconst (v := 1) hx hb dX2_hanging_8 (by decide) ?_
  refine lv_iadd hx hb dX2_hanging_9 ?_
  refine lv_istore_n (lv' := [(3, .int (p0 + 1)), (2, .int 0), (0, .ref (dA 0)), (1, .int p0)]) hx hb dX2_hanging_10 rfl hl (by decide) rfl (fun ls hl => ?_)
  obtain ⟨n9, h⟩ := h
  exact k11 n9 0 (p0 + 1)  _ (lv_sub hl [2, 3, 1, 0] rfl) h
set_option maxHeartbeats 4000000 in
set_option maxRecDepth 100000 in
theorem x_X2_hanging {l : Launch} (hfl : l.stackTraces = false) {s0 : State} (hs0 : zS s0) (D : va_G) (cI cB cJ : ClassId) (dA : Nat → Nat) (bA : Nat → Nat) (aA : Nat → Nat) (tA : Nat → Nat) (d : DS) (p0 : Int32) {post : Int32 → Prop} {px : String → Prop} (h : wpX2_hanging post px d p0) : zX s0 l D (zty cI cB cJ) yX2_hanging cX2_hanging 4 (some .int) 7 1 6 [.ref (dA 0), .int p0] (wD cI dA bA aA tA d) (fun u : Int32 => some (Value.int u)) (fun u : Int32 => post u) (fun _ : Int32 => wD cI dA bA aA tA d) px := by
  refine zX_intro (by decide +kernel) (Nat.le_of_ble_eq_true rfl) ?_
  intro p e s m below meth c A C hnt hA hG hP hD hS ls hl
  have C : zC D (zty cI cB cJ) p s m ([.ref (dA 0), .int p0] : List Value).toArray meth c cX2_hanging RX2 (some .int) 4 := C
  have hx := C.1
  have hb := C.2.1
  have hts := C.2.2.1
  have hown := C.2.2.2.1
  have hml := C.2.2.2.2.2.1
  have hK := C.2.2.2.2.2.2.2
  have hl : lv_has ls 4 [(0, .ref (dA 0)), (1, .int p0)] := hl
  have hP : va_P D vwCl (wD cI dA bA aA tA d) s.heap := hP
  have hD : va_D A (wD cI dA bA aA tA d) := hD
  have k37 : ∀ (K11 : Int32 → Int32 → Prop) (hK11 : ∀ (x2 : Int32) (x3 : Int32) (H : Heap) (locs : List Loc), va_P D vwCl (wD cI dA bA aA tA d) H → va_D A (wD cI dA bA aA tA d) → va_S A s.heap H locs → ∀ (ls : Array Slot), lv_has ls 4 [(0, .ref (dA 0)), (1, .int p0), (2, .int x2), (3, .int x3)] → K11 x2 x3 → W p l e (zr 7 1 6) s m ([.ref (dA 0), .int p0] : List Value).toArray below meth c H locs 1 6 (vx_MQ below (zQ D (fun u : Int32 => some (Value.int u)) (fun u : Int32 => post u) (fun _ : Int32 => wD cI dA bA aA tA d) A) (zXC D px (wD cI dA bA aA tA d) A) ([.ref (dA 0), .int p0] : List Value).toArray s 1 6 A) (F0 m 11 ls [])), ∀ (x2 : Int32) (x3 : Int32) (H : Heap) (locs : List Loc), va_P D vwCl (wD cI dA bA aA tA d) H → va_D A (wD cI dA bA aA tA d) → va_S A s.heap H locs → ∀ (ls : Array Slot), lv_has ls 4 [(0, .ref (dA 0)), (1, .int p0), (2, .int x2), (3, .int x3)] → wpX2_hanging_b37 post px d p0 K11 x2 x3 → W p l e (zr 7 1 6) s m ([.ref (dA 0), .int p0] : List Value).toArray below meth c H locs 1 6 (vx_MQ below (zQ D (fun u : Int32 => some (Value.int u)) (fun u : Int32 => post u) (fun _ : Int32 => wD cI dA bA aA tA d) A) (zXC D px (wD cI dA bA aA tA d) A) ([.ref (dA 0), .int p0] : List Value).toArray s 1 6 A) (F0 m 37 ls []) := by
    intro K11 hK11
    intro x2 x3 H locs hP hD hS ls hl h
    unfold wpX2_hanging_b37 at h
    refine lv_iinc (v := (x3 + 1)) (lv' := [(3, .int (x3 + 1)), (0, .ref (dA 0)), (1, .int p0), (2, .int x2)]) hx hb dX2_hanging_37 hl (k := 3) rfl (by first | rfl | decide) (by decide) rfl (fun ls hl => ?_)
    refine lv_goto (tgt := 11) hx hb dX2_hanging_40 (by decide) ?_
    refine W.widen (k := 1) (n := 6) (Nat.le_of_ble_eq_true rfl) (Nat.le_of_ble_eq_true rfl) ?_
    exact hK11 x2 (x3 + 1)  _ _ hP hD hS _ (lv_sub hl [1, 2, 3, 0] rfl) h
  have k11 : ∀ (n : Nat) (x2 : Int32) (x3 : Int32) (H : Heap) (locs : List Loc), va_P D vwCl (wD cI dA bA aA tA d) H → va_D A (wD cI dA bA aA tA d) → va_S A s.heap H locs → ∀ (ls : Array Slot), lv_has ls 4 [(0, .ref (dA 0)), (1, .int p0), (2, .int x2), (3, .int x3)] → wpX2_hanging_b11 post px d p0 n x2 x3 → W p l e (zr 7 1 6) s m ([.ref (dA 0), .int p0] : List Value).toArray below meth c H locs 1 6 (vx_MQ below (zQ D (fun u : Int32 => some (Value.int u)) (fun u : Int32 => post u) (fun _ : Int32 => wD cI dA bA aA tA d) A) (zXC D px (wD cI dA bA aA tA d) A) ([.ref (dA 0), .int p0] : List Value).toArray s 1 6 A) (F0 m 11 ls []) := by
    intro n
    induction n with
    | zero =>
      intro x2 x3 H locs hP hD hS ls hl h
      exact h.elim
    | succ n ih =>
      intro x2 x3 H locs hP hD hS ls hl h
      rw [wpX2_hanging_b11] at h
      refine lv_iload_n hx hb dX2_hanging_11 rfl (lv_at hl 3 rfl) ?_
      refine lv_aload_n hx hb dX2_hanging_12 rfl (lv_at hl 0 rfl) ?_
      refine z_get C f_X2_10 hP (q0 := 0) rfl rfl dX2_hanging_13 ?_
      refine z_get C f_X2_59 hP (q0 := 11) rfl rfl dX2_hanging_16 ?_
      refine lv_icmp_ge (tgt := 43) hx hb dX2_hanging_19 (by decide) (fun c19 => ?_) (fun c19 => ?_)
      · have h := h.1 c19
        refine lv_iload_n hx hb dX2_hanging_43 rfl (lv_at hl 2 rfl) ?_
        exact vx_ret (zW_iret C x2 rfl h hP hD hS (Nat.le_of_ble_eq_true rfl) (Nat.le_of_ble_eq_true rfl) dX2_hanging_44)
      · have h := h.2 c19
        refine lv_aload_n hx hb dX2_hanging_22 rfl (lv_at hl 0 rfl) ?_
        refine z_get C f_X2_10 hP (q0 := 0) rfl rfl dX2_hanging_23 ?_
        refine lv_iload_n hx hb dX2_hanging_26 rfl (lv_at hl 3 rfl) ?_
        refine lv_iload_n hx hb dX2_hanging_27 rfl (lv_at hl 1 rfl) ?_
        refine z_RV (As := [.int x3, .int p0]) (rest := []) [11, 12, 13, 14, 15, 16, 17, 18, 19, 20, 21] C (hG.kept hS.1 hS.2.1).none hP (c_X1_hangsSomehowOn hfl hs0 D cI cB cJ tA d.2.2.1 x3 p0 h) q241 v_X1_hangsSomehowOn rfl rfl rfl rfl ⟨(Nat.le_of_ble_eq_true rfl), (Nat.le_of_ble_eq_true rfl)⟩ ⟨(Nat.le_of_ble_eq_true rfl), (Nat.le_of_ble_eq_true rfl)⟩ hl.1 rfl (lv_room (Nat.le_of_ble_eq_true rfl)) dX2_hanging_28 (fun r28 h => ?_)
        refine lv_if_eq (tgt := 37) hx hb dX2_hanging_31 (by decide) (fun c31 => ?_) (fun c31 => ?_)
        · have h := h.1 c31
          refine W.widen (k := 1) (n := 6) (Nat.le_of_ble_eq_true rfl) (Nat.le_of_ble_eq_true rfl) ?_
          exact k37 _ ih x2 x3  _ _ hP hD hS _ (lv_sub hl [0, 1, 2, 3] rfl) h
        · have h := h.2 c31
          refine lv_iinc (v := (x2 + 1)) (lv' := [(2, .int (x2 + 1)), (0, .ref (dA 0)), (1, .int p0), (3, .int x3)]) hx hb dX2_hanging_34 hl (k := 2) rfl (by first | rfl | decide) (by decide) rfl (fun ls hl => ?_)
          refine W.widen (k := 1) (n := 6) (Nat.le_of_ble_eq_true rfl) (Nat.le_of_ble_eq_true rfl) ?_
          exact k37 _ ih (x2 + 1) x3  _ _ hP hD hS _ (lv_sub hl [1, 2, 0, 3] rfl) h
  unfold wpX2_hanging at h
  refine lv_aload_n hx hb dX2_hanging_0 rfl (lv_at hl 0 rfl) ?_
  refine lv_iload_n hx hb dX2_hanging_1 rfl (lv_at hl 1 rfl) ?_
  refine z_XV (As := [.int p0]) (rest := []) (wr := ([] : va_W)) (wN := (fun _ : Unit => wD cI dA bA aA tA d)) [0, 1, 2, 3, 4, 5, 6, 7, 8, 9, 10, 11, 12, 13, 14, 15, 16, 17, 18, 19, 20, 21] [] [0, 1, 2, 3, 4, 5, 6, 7, 8, 9, 10, 11, 12, 13, 14, 15, 16, 17, 18, 19, 20, 21] [0, 1, 2, 3, 4, 5, 6, 7, 8, 9, 10, 11, 12, 13, 14, 15, 16, 17, 18, 19, 20, 21] C hG hA hP hD hS (x_X2_requireDuty hfl hs0 D cI cB cJ dA bA aA tA d p0 h) q211 v_X2_requireDuty rfl rfl ⟨by decide, by decide, by decide⟩ (by decide) (fun _ => rfl) rfl rfl rfl rfl ⟨(Nat.le_of_ble_eq_true rfl), (Nat.le_of_ble_eq_true rfl)⟩ ⟨(Nat.le_of_ble_eq_true rfl), (Nat.le_of_ble_eq_true rfl)⟩ hl.1 rfl (lv_room (Nat.le_of_ble_eq_true rfl)) dX2_hanging_2 (fun E ce q9 H locs hE hP hS hce hcv hcl => zX_out C hnt hE hP hS hce hcv hcl (Nat.le_of_ble_eq_true rfl) (Nat.le_of_ble_eq_true rfl)) (fun _ H locs h hP hD hS => ?_)
  have hP : va_P D vwCl (wD cI dA bA aA tA d) H := hP
  have hD : va_D A (wD cI dA bA aA tA d) := hD
  refine lv_iconst (v := 0) hx hb dX2_hanging_5 (by decide) ?_
  refine lv_istore_n (lv' := [(2, .int 0), (0, .ref (dA 0)), (1, .int p0)]) hx hb dX2_hanging_6 rfl hl (by decide) rfl (fun ls hl => ?_)
  refine lv_iload_n hx hb dX2_hanging_7 rfl (lv_at hl 2 rfl) ?_
  refine lv_iconst (v := 1) hx hb dX2_hanging_8 (by decide) ?_
  refine lv_iadd hx hb dX2_hanging_9 ?_
  refine lv_istore_n (lv' := [(3, .int (p0 + 1)), (2, .int 0), (0, .ref (dA 0)), (1, .int p0)]) hx hb dX2_hanging_10 rfl hl (by decide) rfl (fun ls hl => ?_)
  refine W.widen (k := 1) (n := 6) (Nat.le_of_ble_eq_true rfl) (Nat.le_of_ble_eq_true rfl) ?_
  obtain ⟨n9, h⟩ := h
  exact k11 n9 0 (p0 + 1)  _ _ hP hD hS _ (lv_sub hl [2, 3, 1, 0] rfl) h
def wpX2_depthOf (post : Int32 → Prop) (px : String → Prop) (d : DS) (p0 : Int32) : Prop := wpX2_requireDuty (vp_in p0 20 ∧ (post (d.2.2.1.2.2.2.2.2.2.2.1 p0.toNatClampNeg))) px d p0
set_option maxHeartbeats 4000000 in
set_option maxRecDepth 100000 in
theorem c_X2_depthOf {l : Launch} (hfl : l.stackTraces = false) {s0 : State} (hs0 : zS s0) (D : va_G) (cI cB cJ : ClassId) (dA : Nat → Nat) (bA : Nat → Nat) (aA : Nat → Nat) (tA : Nat → Nat) (d : DS) (p0 : Int32) {post : Int32 → Prop} (h : wpX2_depthOf post (fun _ => False) d p0) : zR s0 l D (zty cI cB cJ) yX2_depthOf cX2_depthOf 2 (some .int) 2 [.ref (dA 0), .int p0] (wD cI dA bA aA tA d) (fun u : Int32 => some (Value.int u)) (fun u : Int32 => post u) := by
  refine zR_intro (by decide +kernel) (Nat.le_of_ble_eq_true rfl) ?_
  intro p e s m below meth c C hP hG ls hl
  have C : zC D (zty cI cB cJ) p s m ([.ref (dA 0), .int p0] : List Value).toArray meth c cX2_depthOf RX2 (some .int) 2 := C
  have hx := C.1
  have hb := C.2.1
  have hts := C.2.2.1
  have hown := C.2.2.2.1
  have hml := C.2.2.2.2.2.1
  have hK := C.2.2.2.2.2.2.2
  have hl : lv_has ls 2 [(0, .ref (dA 0)), (1, .int p0)] := hl
  unfold wpX2_depthOf at h
  refine lv_aload_n hx hb dX2_depthOf_0 rfl (lv_at hl 0 rfl) ?_
  refine lv_iload_n hx hb dX2_depthOf_1 rfl (lv_at hl 1 rfl) ?_
  refine z_RV (As := [.int p0]) (rest := []) [0, 1, 2, 3, 4, 5, 6, 7, 8, 9, 10, 11, 12, 13, 14, 15, 16, 17, 18, 19, 20, 21] C hG hP (c_X2_requireDuty hfl hs0 D cI cB cJ dA bA aA tA d p0 h) q211 v_X2_requireDuty rfl rfl rfl rfl ⟨(Nat.le_of_ble_eq_true rfl), (Nat.le_of_ble_eq_true rfl)⟩ ⟨(Nat.le_of_ble_eq_true rfl), (Nat.le_of_ble_eq_true rfl)⟩ hl.1 rfl (lv_room (Nat.le_of_ble_eq_true rfl)) dX2_depthOf_2 (fun u h => ?_)
  refine lv_aload_n hx hb dX2_depthOf_5 rfl (lv_at hl 0 rfl) ?_
  refine z_get C f_X2_10 hP (q0 := 0) rfl rfl dX2_depthOf_6 ?_
  refine z_get C f_X2_125 hP (q0 := 11) rfl rfl dX2_depthOf_9 ?_
  refine lv_iload_n hx hb dX2_depthOf_12 rfl (lv_at hl 1 rfl) ?_
  obtain ⟨g9, h⟩ := h
  refine va_iald hx hb hK hP 19 0 rfl rfl g9 dX2_depthOf_13 ?_
  exact zR_iret C (d.2.2.1.2.2.2.2.2.2.2.1 p0.toNatClampNeg) rfl h dX2_depthOf_14
set_option maxHeartbeats 4000000 in
set_option maxRecDepth 100000 in
theorem x_X2_depthOf {l : Launch} (hfl : l.stackTraces = false) {s0 : State} (hs0 : zS s0) (D : va_G) (cI cB cJ : ClassId) (dA : Nat → Nat) (bA : Nat → Nat) (aA : Nat → Nat) (tA : Nat → Nat) (d : DS) (p0 : Int32) {post : Int32 → Prop} {px : String → Prop} (h : wpX2_depthOf post px d p0) : zX s0 l D (zty cI cB cJ) yX2_depthOf cX2_depthOf 2 (some .int) 7 1 6 [.ref (dA 0), .int p0] (wD cI dA bA aA tA d) (fun u : Int32 => some (Value.int u)) (fun u : Int32 => post u) (fun _ : Int32 => wD cI dA bA aA tA d) px := by
  refine zX_intro (by decide +kernel) (Nat.le_of_ble_eq_true rfl) ?_
  intro p e s m below meth c A C hnt hA hG hP hD hS ls hl
  have C : zC D (zty cI cB cJ) p s m ([.ref (dA 0), .int p0] : List Value).toArray meth c cX2_depthOf RX2 (some .int) 2 := C
  have hx := C.1
  have hb := C.2.1
  have hts := C.2.2.1
  have hown := C.2.2.2.1
  have hml := C.2.2.2.2.2.1
  have hK := C.2.2.2.2.2.2.2
  have hl : lv_has ls 2 [(0, .ref (dA 0)), (1, .int p0)] := hl
  have hP : va_P D vwCl (wD cI dA bA aA tA d) s.heap := hP
  have hD : va_D A (wD cI dA bA aA tA d) := hD
  unfold wpX2_depthOf at h
  refine lv_aload_n hx hb dX2_depthOf_0 rfl (lv_at hl 0 rfl) ?_
  refine lv_iload_n hx hb dX2_depthOf_1 rfl (lv_at hl 1 rfl) ?_
  refine z_XV (As := [.int p0]) (rest := []) (wr := ([] : va_W)) (wN := (fun _ : Unit => wD cI dA bA aA tA d)) [0, 1, 2, 3, 4, 5, 6, 7, 8, 9, 10, 11, 12, 13, 14, 15, 16, 17, 18, 19, 20, 21] [] [0, 1, 2, 3, 4, 5, 6, 7, 8, 9, 10, 11, 12, 13, 14, 15, 16, 17, 18, 19, 20, 21] [0, 1, 2, 3, 4, 5, 6, 7, 8, 9, 10, 11, 12, 13, 14, 15, 16, 17, 18, 19, 20, 21] C hG hA hP hD hS (x_X2_requireDuty hfl hs0 D cI cB cJ dA bA aA tA d p0 h) q211 v_X2_requireDuty rfl rfl ⟨by decide, by decide, by decide⟩ (by decide) (fun _ => rfl) rfl rfl rfl rfl ⟨(Nat.le_of_ble_eq_true rfl), (Nat.le_of_ble_eq_true rfl)⟩ ⟨(Nat.le_of_ble_eq_true rfl), (Nat.le_of_ble_eq_true rfl)⟩ hl.1 rfl (lv_room (Nat.le_of_ble_eq_true rfl)) dX2_depthOf_2 (fun E ce q9 H locs hE hP hS hce hcv hcl => zX_out C hnt hE hP hS hce hcv hcl (Nat.le_of_ble_eq_true rfl) (Nat.le_of_ble_eq_true rfl)) (fun _ H locs h hP hD hS => ?_)
  have hP : va_P D vwCl (wD cI dA bA aA tA d) H := hP
  have hD : va_D A (wD cI dA bA aA tA d) := hD
  refine lv_aload_n hx hb dX2_depthOf_5 rfl (lv_at hl 0 rfl) ?_
  refine z_get C f_X2_10 hP (q0 := 0) rfl rfl dX2_depthOf_6 ?_
  refine z_get C f_X2_125 hP (q0 := 11) rfl rfl dX2_depthOf_9 ?_
  refine lv_iload_n hx hb dX2_depthOf_12 rfl (lv_at hl 1 rfl) ?_
  obtain ⟨g9, h⟩ := h
  refine va_iald hx hb hK hP 19 0 rfl rfl g9 dX2_depthOf_13 ?_
  exact vx_ret (zW_iret C (d.2.2.1.2.2.2.2.2.2.2.1 p0.toNatClampNeg) rfl h hP hD hS (Nat.le_of_ble_eq_true rfl) (Nat.le_of_ble_eq_true rfl) dX2_depthOf_14)
def wpX2_textLength (post : Int32 → Prop) (px : String → Prop) (d : DS) (p0 : Int32) : Prop := wpX2_requireDuty (vp_in p0 20 ∧ (post (d.2.2.1.2.2.2.2.2.2.2.2.1 p0.toNatClampNeg))) px d p0
set_option maxHeartbeats 4000000 in
set_option maxRecDepth 100000 in
theorem x_X2_textLength {l : Launch} (hfl : l.stackTraces = false) {s0 : State} (hs0 : zS s0) (D : va_G) (cI cB cJ : ClassId) (dA : Nat → Nat) (bA : Nat → Nat) (aA : Nat → Nat) (tA : Nat → Nat) (d : DS) (p0 : Int32) {post : Int32 → Prop} {px : String → Prop} (h : wpX2_textLength post px d p0) : zX s0 l D (zty cI cB cJ) yX2_textLength cX2_textLength 2 (some .int) 7 1 6 [.ref (dA 0), .int p0] (wD cI dA bA aA tA d) (fun u : Int32 => some (Value.int u)) (fun u : Int32 => post u) (fun _ : Int32 => wD cI dA bA aA tA d) px := by
  refine zX_intro (by decide +kernel) (Nat.le_of_ble_eq_true rfl) ?_
  intro p e s m below meth c A C hnt hA hG hP hD hS ls hl
  have C : zC D (zty cI cB cJ) p s m ([.ref (dA 0), .int p0] : List Value).toArray meth c cX2_textLength RX2 (some .int) 2 := C
  have hx := C.1
  have hb := C.2.1
  have hts := C.2.2.1
  have hown := C.2.2.2.1
  have hml := C.2.2.2.2.2.1
  have hK := C.2.2.2.2.2.2.2
  have hl : lv_has ls 2 [(0, .ref (dA 0)), (1, .int p0)] := hl
  have hP : va_P D vwCl (wD cI dA bA aA tA d) s.heap := hP
  have hD : va_D A (wD cI dA bA aA tA d) := hD
  unfold wpX2_textLength at h
  refine lv_aload_n hx hb dX2_textLength_0 rfl (lv_at hl 0 rfl) ?_
  refine lv_iload_n hx hb dX2_textLength_1 rfl (lv_at hl 1 rfl) ?_
  refine z_XV (As := [.int p0]) (rest := []) (wr := ([] : va_W)) (wN := (fun _ : Unit => wD cI dA bA aA tA d)) [0, 1, 2, 3, 4, 5, 6, 7, 8, 9, 10, 11, 12, 13, 14, 15, 16, 17, 18, 19, 20, 21] [] [0, 1, 2, 3, 4, 5, 6, 7, 8, 9, 10, 11, 12, 13, 14, 15, 16, 17, 18, 19, 20, 21] [0, 1, 2, 3, 4, 5, 6, 7, 8, 9, 10, 11, 12, 13, 14, 15, 16, 17, 18, 19, 20, 21] C hG hA hP hD hS (x_X2_requireDuty hfl hs0 D cI cB cJ dA bA aA tA d p0 h) q211 v_X2_requireDuty rfl rfl ⟨by decide, by decide, by decide⟩ (by decide) (fun _ => rfl) rfl rfl rfl rfl ⟨(Nat.le_of_ble_eq_true rfl), (Nat.le_of_ble_eq_true rfl)⟩ ⟨(Nat.le_of_ble_eq_true rfl), (Nat.le_of_ble_eq_true rfl)⟩ hl.1 rfl (lv_room (Nat.le_of_ble_eq_true rfl)) dX2_textLength_2 (fun E ce q9 H locs hE hP hS hce hcv hcl => zX_out C hnt hE hP hS hce hcv hcl (Nat.le_of_ble_eq_true rfl) (Nat.le_of_ble_eq_true rfl)) (fun _ H locs h hP hD hS => ?_)
  have hP : va_P D vwCl (wD cI dA bA aA tA d) H := hP
  have hD : va_D A (wD cI dA bA aA tA d) := hD
  refine lv_aload_n hx hb dX2_textLength_5 rfl (lv_at hl 0 rfl) ?_
  refine z_get C f_X2_10 hP (q0 := 0) rfl rfl dX2_textLength_6 ?_
  refine z_get C f_X2_128 hP (q0 := 11) rfl rfl dX2_textLength_9 ?_
  refine lv_iload_n hx hb dX2_textLength_12 rfl (lv_at hl 1 rfl) ?_
  obtain ⟨g9, h⟩ := h
  refine va_iald hx hb hK hP 20 0 rfl rfl g9 dX2_textLength_13 ?_
  exact vx_ret (zW_iret C (d.2.2.1.2.2.2.2.2.2.2.2.1 p0.toNatClampNeg) rfl h hP hD hS (Nat.le_of_ble_eq_true rfl) (Nat.le_of_ble_eq_true rfl) dX2_textLength_14)
def wpX2_sealOf (post : Int32 → Prop) (px : String → Prop) (d : DS) (p0 : Int32) : Prop := wpX2_requireDuty (vp_in p0 20 ∧ (post (d.2.2.1.2.2.2.2.2.2.2.2.2.1 p0.toNatClampNeg))) px d p0
set_option maxHeartbeats 4000000 in
set_option maxRecDepth 100000 in
theorem c_X2_sealOf {l : Launch} (hfl : l.stackTraces = false) {s0 : State} (hs0 : zS s0) (D : va_G) (cI cB cJ : ClassId) (dA : Nat → Nat) (bA : Nat → Nat) (aA : Nat → Nat) (tA : Nat → Nat) (d : DS) (p0 : Int32) {post : Int32 → Prop} (h : wpX2_sealOf post (fun _ => False) d p0) : zR s0 l D (zty cI cB cJ) yX2_sealOf cX2_sealOf 2 (some .int) 2 [.ref (dA 0), .int p0] (wD cI dA bA aA tA d) (fun u : Int32 => some (Value.int u)) (fun u : Int32 => post u) := by
  refine zR_intro (by decide +kernel) (Nat.le_of_ble_eq_true rfl) ?_
  intro p e s m below meth c C hP hG ls hl
  have C : zC D (zty cI cB cJ) p s m ([.ref (dA 0), .int p0] : List Value).toArray meth c cX2_sealOf RX2 (some .int) 2 := C
  have hx := C.1
  have hb := C.2.1
  have hts := C.2.2.1
  have hown := C.2.2.2.1
  have hml := C.2.2.2.2.2.1
  have hK := C.2.2.2.2.2.2.2
  have hl : lv_has ls 2 [(0, .ref (dA 0)), (1, .int p0)] := hl
  unfold wpX2_sealOf at h
  refine lv_aload_n hx hb dX2_sealOf_0 rfl (lv_at hl 0 rfl) ?_
  refine lv_iload_n hx hb dX2_sealOf_1 rfl (lv_at hl 1 rfl) ?_
  refine z_RV (As := [.int p0]) (rest := []) [0, 1, 2, 3, 4, 5, 6, 7, 8, 9, 10, 11, 12, 13, 14, 15, 16, 17, 18, 19, 20, 21] C hG hP (c_X2_requireDuty hfl hs0 D cI cB cJ dA bA aA tA d p0 h) q211 v_X2_requireDuty rfl rfl rfl rfl ⟨(Nat.le_of_ble_eq_true rfl), (Nat.le_of_ble_eq_true rfl)⟩ ⟨(Nat.le_of_ble_eq_true rfl), (Nat.le_of_ble_eq_true rfl)⟩ hl.1 rfl (lv_room (Nat.le_of_ble_eq_true rfl)) dX2_sealOf_2 (fun u h => ?_)
  refine lv_aload_n hx hb dX2_sealOf_5 rfl (lv_at hl 0 rfl) ?_
  refine z_get C f_X2_10 hP (q0 := 0) rfl rfl dX2_sealOf_6 ?_
  refine z_get C f_X2_131 hP (q0 := 11) rfl rfl dX2_sealOf_9 ?_
  refine lv_iload_n hx hb dX2_sealOf_12 rfl (lv_at hl 1 rfl) ?_
  obtain ⟨g9, h⟩ := h
  refine va_iald hx hb hK hP 21 0 rfl rfl g9 dX2_sealOf_13 ?_
  exact zR_iret C (d.2.2.1.2.2.2.2.2.2.2.2.2.1 p0.toNatClampNeg) rfl h dX2_sealOf_14
set_option maxHeartbeats 4000000 in
set_option maxRecDepth 100000 in
theorem x_X2_sealOf {l : Launch} (hfl : l.stackTraces = false) {s0 : State} (hs0 : zS s0) (D : va_G) (cI cB cJ : ClassId) (dA : Nat → Nat) (bA : Nat → Nat) (aA : Nat → Nat) (tA : Nat → Nat) (d : DS) (p0 : Int32) {post : Int32 → Prop} {px : String → Prop} (h : wpX2_sealOf post px d p0) : zX s0 l D (zty cI cB cJ) yX2_sealOf cX2_sealOf 2 (some .int) 7 1 6 [.ref (dA 0), .int p0] (wD cI dA bA aA tA d) (fun u : Int32 => some (Value.int u)) (fun u : Int32 => post u) (fun _ : Int32 => wD cI dA bA aA tA d) px := by
  refine zX_intro (by decide +kernel) (Nat.le_of_ble_eq_true rfl) ?_
  intro p e s m below meth c A C hnt hA hG hP hD hS ls hl
  have C : zC D (zty cI cB cJ) p s m ([.ref (dA 0), .int p0] : List Value).toArray meth c cX2_sealOf RX2 (some .int) 2 := C
  have hx := C.1
  have hb := C.2.1
  have hts := C.2.2.1
  have hown := C.2.2.2.1
  have hml := C.2.2.2.2.2.1
  have hK := C.2.2.2.2.2.2.2
  have hl : lv_has ls 2 [(0, .ref (dA 0)), (1, .int p0)] := hl
  have hP : va_P D vwCl (wD cI dA bA aA tA d) s.heap := hP
  have hD : va_D A (wD cI dA bA aA tA d) := hD
  unfold wpX2_sealOf at h
  refine lv_aload_n hx hb dX2_sealOf_0 rfl (lv_at hl 0 rfl) ?_
  refine lv_iload_n hx hb dX2_sealOf_1 rfl (lv_at hl 1 rfl) ?_
  refine z_XV (As := [.int p0]) (rest := []) (wr := ([] : va_W)) (wN := (fun _ : Unit => wD cI dA bA aA tA d)) [0, 1, 2, 3, 4, 5, 6, 7, 8, 9, 10, 11, 12, 13, 14, 15, 16, 17, 18, 19, 20, 21] [] [0, 1, 2, 3, 4, 5, 6, 7, 8, 9, 10, 11, 12, 13, 14, 15, 16, 17, 18, 19, 20, 21] [0, 1, 2, 3, 4, 5, 6, 7, 8, 9, 10, 11, 12, 13, 14, 15, 16, 17, 18, 19, 20, 21] C hG hA hP hD hS (x_X2_requireDuty hfl hs0 D cI cB cJ dA bA aA tA d p0 h) q211 v_X2_requireDuty rfl rfl ⟨by decide, by decide, by decide⟩ (by decide) (fun _ => rfl) rfl rfl rfl rfl ⟨(Nat.le_of_ble_eq_true rfl), (Nat.le_of_ble_eq_true rfl)⟩ ⟨(Nat.le_of_ble_eq_true rfl), (Nat.le_of_ble_eq_true rfl)⟩ hl.1 rfl (lv_room (Nat.le_of_ble_eq_true rfl)) dX2_sealOf_2 (fun E ce q9 H locs hE hP hS hce hcv hcl => zX_out C hnt hE hP hS hce hcv hcl (Nat.le_of_ble_eq_true rfl) (Nat.le_of_ble_eq_true rfl)) (fun _ H locs h hP hD hS => ?_)
  have hP : va_P D vwCl (wD cI dA bA aA tA d) H := hP
  have hD : va_D A (wD cI dA bA aA tA d) := hD
  refine lv_aload_n hx hb dX2_sealOf_5 rfl (lv_at hl 0 rfl) ?_
  refine z_get C f_X2_10 hP (q0 := 0) rfl rfl dX2_sealOf_6 ?_
  refine z_get C f_X2_131 hP (q0 := 11) rfl rfl dX2_sealOf_9 ?_
  refine lv_iload_n hx hb dX2_sealOf_12 rfl (lv_at hl 1 rfl) ?_
  obtain ⟨g9, h⟩ := h
  refine va_iald hx hb hK hP 21 0 rfl rfl g9 dX2_sealOf_13 ?_
  exact vx_ret (zW_iret C (d.2.2.1.2.2.2.2.2.2.2.2.2.1 p0.toNatClampNeg) rfl h hP hD hS (Nat.le_of_ble_eq_true rfl) (Nat.le_of_ble_eq_true rfl) dX2_sealOf_14)
def wpX2_owes_b44 (post : Int32 → Prop) (px : String → Prop) (d : DS) (p0 : Int32) (K9 : Int32 → Int32 → Prop) (x2 : Int32) (x3 : Int32) : Prop := K9 x2 (x3 + 1)
def wpX2_owes_b9 (post : Int32 → Prop) (px : String → Prop) (d : DS) (p0 : Int32) : Nat → Int32 → Int32 → Prop
  | 0, _, _ => False
  | n + 1, x2, x3 => (d.2.2.1.2.2.2.2.2.2.2.2.2.2 ≤ x3 → post x2) ∧ (¬ d.2.2.1.2.2.2.2.2.2.2.2.2.2 ≤ x3 → vp_in x3 20 ∧ (((d.2.2.1.1 x3.toNatClampNeg) = p0 → wpX0_price (fun r39 => wpX2_owes_b44 post px d p0 (fun z0 z1 => wpX2_owes_b9 post px d p0 n z0 z1) (x2 + r39) x3) d.2.2.1 d.1 x3) ∧ (¬ (d.2.2.1.1 x3.toNatClampNeg) = p0 → wpX2_owes_b44 post px d p0 (fun z0 z1 => wpX2_owes_b9 post px d p0 n z0 z1) x2 x3)))
def wpX2_owes (post : Int32 → Prop) (px : String → Prop) (d : DS) (p0 : Int32) : Prop := wpX2_requireParty (∃ n9 : Nat, wpX2_owes_b9 post px d p0 n9 0 0) px d p0
set_option maxHeartbeats 4000000 in
set_option maxRecDepth 100000 in
theorem c_X2_owes {l : Launch} (hfl : l.stackTraces = false) {s0 : State} (hs0 : zS s0) (D : va_G) (cI cB cJ : ClassId) (dA : Nat → Nat) (bA : Nat → Nat) (aA : Nat → Nat) (tA : Nat → Nat) (d : DS) (p0 : Int32) {post : Int32 → Prop} (h : wpX2_owes post (fun _ => False) d p0) : zR s0 l D (zty cI cB cJ) yX2_owes cX2_owes 4 (some .int) 2 [.ref (dA 0), .int p0] (wD cI dA bA aA tA d) (fun u : Int32 => some (Value.int u)) (fun u : Int32 => post u) := by
  refine zR_intro (by decide +kernel) (Nat.le_of_ble_eq_true rfl) ?_
  intro p e s m below meth c C hP hG ls hl
  have C : zC D (zty cI cB cJ) p s m ([.ref (dA 0), .int p0] : List Value).toArray meth c cX2_owes RX2 (some .int) 4 := C
  have hx := C.1
  have hb := C.2.1
  have hts := C.2.2.1
  have hown := C.2.2.2.1
  have hml := C.2.2.2.2.2.1
  have hK := C.2.2.2.2.2.2.2
  have hl : lv_has ls 4 [(0, .ref (dA 0)), (1, .int p0)] := hl
  have k44 : ∀ (K9 : Int32 → Int32 → Prop) (hK9 : ∀ (x2 : Int32) (x3 : Int32) (ls : Array Slot), lv_has ls 4 [(0, .ref (dA 0)), (1, .int p0), (2, .int x2), (3, .int x3)] → K9 x2 x3 → W p l e (zr 2 0 0) s m ([.ref (dA 0), .int p0] : List Value).toArray below meth c s.heap [] 0 0 (MQ below (zQr (fun u : Int32 => some (Value.int u)) (fun u : Int32 => post u)) ([.ref (dA 0), .int p0] : List Value).toArray s 0 0 (fun _ => False)) (F0 m 9 ls [])), ∀ (x2 : Int32) (x3 : Int32) (ls : Array Slot), lv_has ls 4 [(0, .ref (dA 0)), (1, .int p0), (2, .int x2), (3, .int x3)] → wpX2_owes_b44 post (fun _ : String => False) d p0 K9 x2 x3 → W p l e (zr 2 0 0) s m ([.ref (dA 0), .int p0] : List Value).toArray below meth c s.heap [] 0 0 (MQ below (zQr (fun u : Int32 => some (Value.int u)) (fun u : Int32 => post u)) ([.ref (dA 0), .int p0] : List Value).toArray s 0 0 (fun _ => False)) (F0 m 44 ls []) := by
    intro K9 hK9
    intro x2 x3 ls hl h
    unfold wpX2_owes_b44 at h
    refine lv_iinc (v := (x3 + 1)) (lv' := [(3, .int (x3 + 1)), (0, .ref (dA 0)), (1, .int p0), (2, .int x2)]) hx hb dX2_owes_44 hl (k := 3) rfl (by first | rfl | decide) (by decide) rfl (fun ls hl => ?_)
    refine lv_goto (tgt := 9) hx hb dX2_owes_47 (by decide) ?_
    exact hK9 x2 (x3 + 1)  _ (lv_sub hl [1, 2, 3, 0] rfl) h
  have k9 : ∀ (n : Nat) (x2 : Int32) (x3 : Int32) (ls : Array Slot), lv_has ls 4 [(0, .ref (dA 0)), (1, .int p0), (2, .int x2), (3, .int x3)] → wpX2_owes_b9 post (fun _ : String => False) d p0 n x2 x3 → W p l e (zr 2 0 0) s m ([.ref (dA 0), .int p0] : List Value).toArray below meth c s.heap [] 0 0 (MQ below (zQr (fun u : Int32 => some (Value.int u)) (fun u : Int32 => post u)) ([.ref (dA 0), .int p0] : List Value).toArray s 0 0 (fun _ => False)) (F0 m 9 ls []) := by
    intro n
    induction n with
    | zero =>
      intro x2 x3 ls hl h
      exact h.elim
    | succ n ih =>
      intro x2 x3 ls hl h
      rw [wpX2_owes_b9] at h
      refine lv_iload_n hx hb dX2_owes_9 rfl (lv_at hl 3 rfl) ?_
      refine lv_aload_n hx hb dX2_owes_10 rfl (lv_at hl 0 rfl) ?_
      refine z_get C f_X2_10 hP (q0 := 0) rfl rfl dX2_owes_11 ?_
      refine z_get C f_X2_59 hP (q0 := 11) rfl rfl dX2_owes_14 ?_
      refine lv_icmp_ge (tgt := 50) hx hb dX2_owes_17 (by decide) (fun c17 => ?_) (fun c17 => ?_)
      · have h := h.1 c17
        refine lv_iload_n hx hb dX2_owes_50 rfl (lv_at hl 2 rfl) ?_
        exact zR_iret C x2 rfl h dX2_owes_51
      · have h := h.2 c17
        refine lv_aload_n hx hb dX2_owes_20 rfl (lv_at hl 0 rfl) ?_
        refine z_get C f_X2_10 hP (q0 := 0) rfl rfl dX2_owes_21 ?_
        refine z_get C f_X2_134 hP (q0 := 11) rfl rfl dX2_owes_24 ?_
        refine lv_iload_n hx hb dX2_owes_27 rfl (lv_at hl 3 rfl) ?_
        obtain ⟨g9, h⟩ := h
        refine va_iald hx hb hK hP 12 0 rfl rfl g9 dX2_owes_28 ?_
        refine lv_iload_n hx hb dX2_owes_29 rfl (lv_at hl 1 rfl) ?_
        refine lv_icmp_ne (tgt := 44) hx hb dX2_owes_30 (by decide) (fun c30 => ?_) (fun c30 => ?_)
        · have h := h.2 c30
          exact k44 _ ih x2 x3  _ (lv_sub hl [0, 1, 2, 3] rfl) h
        · have h := h.1 c30
          refine lv_iload_n hx hb dX2_owes_33 rfl (lv_at hl 2 rfl) ?_
          refine lv_aload_n hx hb dX2_owes_34 rfl (lv_at hl 0 rfl) ?_
          refine z_get C f_X2_21 hP (q0 := 0) rfl rfl dX2_owes_35 ?_
          refine lv_iload_n hx hb dX2_owes_38 rfl (lv_at hl 3 rfl) ?_
          refine z_RV (As := [.int x3]) (rest := [.int x2]) [1, 2, 3, 4, 5, 11, 12, 13, 14, 15, 16, 17, 18, 19, 20, 21] C hG hP (c_X0_price hfl hs0 D cI cB cJ bA tA d.2.2.1 d.1 x3 h) q216 v_X0_price rfl rfl rfl rfl ⟨(Nat.le_of_ble_eq_true rfl), (Nat.le_of_ble_eq_true rfl)⟩ ⟨(Nat.le_of_ble_eq_true rfl), (Nat.le_of_ble_eq_true rfl)⟩ hl.1 rfl (lv_room (Nat.le_of_ble_eq_true rfl)) dX2_owes_39 (fun r39 h => ?_)
          refine lv_iadd hx hb dX2_owes_42 ?_
          refine lv_istore_n (lv' := [(2, .int (x2 + r39)), (0, .ref (dA 0)), (1, .int p0), (3, .int x3)]) hx hb dX2_owes_43 rfl hl (by decide) rfl (fun ls hl => ?_)
          exact k44 _ ih (x2 + r39) x3  _ (lv_sub hl [1, 2, 0, 3] rfl) h
  unfold wpX2_owes at h
  refine lv_aload_n hx hb dX2_owes_0 rfl (lv_at hl 0 rfl) ?_
  refine lv_iload_n hx hb dX2_owes_1 rfl (lv_at hl 1 rfl) ?_
  refine z_RV (As := [.int p0]) (rest := []) [0, 1, 2, 3, 4, 5, 6, 7, 8, 9, 10, 11, 12, 13, 14, 15, 16, 17, 18, 19, 20, 21] C hG hP (c_X2_requireParty hfl hs0 D cI cB cJ dA bA aA tA d p0 h) q229 v_X2_requireParty rfl rfl rfl rfl ⟨(Nat.le_of_ble_eq_true rfl), (Nat.le_of_ble_eq_true rfl)⟩ ⟨(Nat.le_of_ble_eq_true rfl), (Nat.le_of_ble_eq_true rfl)⟩ hl.1 rfl (lv_room (Nat.le_of_ble_eq_true rfl)) dX2_owes_2 (fun u h => ?_)
  refine lv_iconst (v := 0) hx hb dX2_owes_5 (by decide) ?_
  refine lv_istore_n (lv' := [(2, .int 0), (0, .ref (dA 0)), (1, .int p0)]) hx hb dX2_owes_6 rfl hl (by decide) rfl (fun ls hl => ?_)
  refine lv_iconst (v := 0) hx hb dX2_owes_7 (by decide) ?_
  refine lv_istore_n (lv' := [(3, .int 0), (2, .int 0), (0, .ref (dA 0)), (1, .int p0)]) hx hb dX2_owes_8 rfl hl (by decide) rfl (fun ls hl => ?_)
  obtain ⟨n9, h⟩ := h
  exact k9 n9 0 0  _ (lv_sub hl [2, 3, 1, 0] rfl) h
set_option maxHeartbeats 4000000 in
set_option maxRecDepth 100000 in
theorem x_X2_owes {l : Launch} (hfl : l.stackTraces = false) {s0 : State} (hs0 : zS s0) (D : va_G) (cI cB cJ : ClassId) (dA : Nat → Nat) (bA : Nat → Nat) (aA : Nat → Nat) (tA : Nat → Nat) (d : DS) (p0 : Int32) {post : Int32 → Prop} {px : String → Prop} (h : wpX2_owes post px d p0) : zX s0 l D (zty cI cB cJ) yX2_owes cX2_owes 4 (some .int) 7 1 6 [.ref (dA 0), .int p0] (wD cI dA bA aA tA d) (fun u : Int32 => some (Value.int u)) (fun u : Int32 => post u) (fun _ : Int32 => wD cI dA bA aA tA d) px := by
  refine zX_intro (by decide +kernel) (Nat.le_of_ble_eq_true rfl) ?_
  intro p e s m below meth c A C hnt hA hG hP hD hS ls hl
  have C : zC D (zty cI cB cJ) p s m ([.ref (dA 0), .int p0] : List Value).toArray meth c cX2_owes RX2 (some .int) 4 := C
  have hx := C.1
  have hb := C.2.1
  have hts := C.2.2.1
  have hown := C.2.2.2.1
  have hml := C.2.2.2.2.2.1
  have hK := C.2.2.2.2.2.2.2
  have hl : lv_has ls 4 [(0, .ref (dA 0)), (1, .int p0)] := hl
  have hP : va_P D vwCl (wD cI dA bA aA tA d) s.heap := hP
  have hD : va_D A (wD cI dA bA aA tA d) := hD
  have k44 : ∀ (K9 : Int32 → Int32 → Prop) (hK9 : ∀ (x2 : Int32) (x3 : Int32) (H : Heap) (locs : List Loc), va_P D vwCl (wD cI dA bA aA tA d) H → va_D A (wD cI dA bA aA tA d) → va_S A s.heap H locs → ∀ (ls : Array Slot), lv_has ls 4 [(0, .ref (dA 0)), (1, .int p0), (2, .int x2), (3, .int x3)] → K9 x2 x3 → W p l e (zr 7 1 6) s m ([.ref (dA 0), .int p0] : List Value).toArray below meth c H locs 1 6 (vx_MQ below (zQ D (fun u : Int32 => some (Value.int u)) (fun u : Int32 => post u) (fun _ : Int32 => wD cI dA bA aA tA d) A) (zXC D px (wD cI dA bA aA tA d) A) ([.ref (dA 0), .int p0] : List Value).toArray s 1 6 A) (F0 m 9 ls [])), ∀ (x2 : Int32) (x3 : Int32) (H : Heap) (locs : List Loc), va_P D vwCl (wD cI dA bA aA tA d) H → va_D A (wD cI dA bA aA tA d) → va_S A s.heap H locs → ∀ (ls : Array Slot), lv_has ls 4 [(0, .ref (dA 0)), (1, .int p0), (2, .int x2), (3, .int x3)] → wpX2_owes_b44 post px d p0 K9 x2 x3 → W p l e (zr 7 1 6) s m ([.ref (dA 0), .int p0] : List Value).toArray below meth c H locs 1 6 (vx_MQ below (zQ D (fun u : Int32 => some (Value.int u)) (fun u : Int32 => post u) (fun _ : Int32 => wD cI dA bA aA tA d) A) (zXC D px (wD cI dA bA aA tA d) A) ([.ref (dA 0), .int p0] : List Value).toArray s 1 6 A) (F0 m 44 ls []) := by
    intro K9 hK9
    intro x2 x3 H locs hP hD hS ls hl h
    unfold wpX2_owes_b44 at h
    refine lv_iinc (v := (x3 + 1)) (lv' := [(3, .int (x3 + 1)), (0, .ref (dA 0)), (1, .int p0), (2, .int x2)]) hx hb dX2_owes_44 hl (k := 3) rfl (by first | rfl | decide) (by decide) rfl (fun ls hl => ?_)
    refine lv_goto (tgt := 9) hx hb dX2_owes_47 (by decide) ?_
    refine W.widen (k := 1) (n := 6) (Nat.le_of_ble_eq_true rfl) (Nat.le_of_ble_eq_true rfl) ?_
    exact hK9 x2 (x3 + 1)  _ _ hP hD hS _ (lv_sub hl [1, 2, 3, 0] rfl) h
  have k9 : ∀ (n : Nat) (x2 : Int32) (x3 : Int32) (H : Heap) (locs : List Loc), va_P D vwCl (wD cI dA bA aA tA d) H → va_D A (wD cI dA bA aA tA d) → va_S A s.heap H locs → ∀ (ls : Array Slot), lv_has ls 4 [(0, .ref (dA 0)), (1, .int p0), (2, .int x2), (3, .int x3)] → wpX2_owes_b9 post px d p0 n x2 x3 → W p l e (zr 7 1 6) s m ([.ref (dA 0), .int p0] : List Value).toArray below meth c H locs 1 6 (vx_MQ below (zQ D (fun u : Int32 => some (Value.int u)) (fun u : Int32 => post u) (fun _ : Int32 => wD cI dA bA aA tA d) A) (zXC D px (wD cI dA bA aA tA d) A) ([.ref (dA 0), .int p0] : List Value).toArray s 1 6 A) (F0 m 9 ls []) := by
    intro n
    induction n with
    | zero =>
      intro x2 x3 H locs hP hD hS ls hl h
      exact h.elim
    | succ n ih =>
      intro x2 x3 H locs hP hD hS ls hl h
      rw [wpX2_owes_b9] at h
      refine lv_iload_n hx hb dX2_owes_9 rfl (lv_at hl 3 rfl) ?_
      refine lv_aload_n hx hb dX2_owes_10 rfl (lv_at hl 0 rfl) ?_
      refine z_get C f_X2_10 hP (q0 := 0) rfl rfl dX2_owes_11 ?_
      refine z_get C f_X2_59 hP (q0 := 11) rfl rfl dX2_owes_14 ?_
      refine lv_icmp_ge (tgt := 50) hx hb dX2_owes_17 (by decide) (fun c17 => ?_) (fun c17 => ?_)
      · have h := h.1 c17
        refine lv_iload_n hx hb dX2_owes_50 rfl (lv_at hl 2 rfl) ?_
        exact vx_ret (zW_iret C x2 rfl h hP hD hS (Nat.le_of_ble_eq_true rfl) (Nat.le_of_ble_eq_true rfl) dX2_owes_51)
      · have h := h.2 c17
        refine lv_aload_n hx hb dX2_owes_20 rfl (lv_at hl 0 rfl) ?_
        refine z_get C f_X2_10 hP (q0 := 0) rfl rfl dX2_owes_21 ?_
        refine z_get C f_X2_134 hP (q0 := 11) rfl rfl dX2_owes_24 ?_
        refine lv_iload_n hx hb dX2_owes_27 rfl (lv_at hl 3 rfl) ?_
        obtain ⟨g9, h⟩ := h
        refine va_iald hx hb hK hP 12 0 rfl rfl g9 dX2_owes_28 ?_
        refine lv_iload_n hx hb dX2_owes_29 rfl (lv_at hl 1 rfl) ?_
        refine lv_icmp_ne (tgt := 44) hx hb dX2_owes_30 (by decide) (fun c30 => ?_) (fun c30 => ?_)
        · have h := h.2 c30
          refine W.widen (k := 1) (n := 6) (Nat.le_of_ble_eq_true rfl) (Nat.le_of_ble_eq_true rfl) ?_
          exact k44 _ ih x2 x3  _ _ hP hD hS _ (lv_sub hl [0, 1, 2, 3] rfl) h
        · have h := h.1 c30
          refine lv_iload_n hx hb dX2_owes_33 rfl (lv_at hl 2 rfl) ?_
          refine lv_aload_n hx hb dX2_owes_34 rfl (lv_at hl 0 rfl) ?_
          refine z_get C f_X2_21 hP (q0 := 0) rfl rfl dX2_owes_35 ?_
          refine lv_iload_n hx hb dX2_owes_38 rfl (lv_at hl 3 rfl) ?_
          refine z_RV (As := [.int x3]) (rest := [.int x2]) [1, 2, 3, 4, 5, 11, 12, 13, 14, 15, 16, 17, 18, 19, 20, 21] C (hG.kept hS.1 hS.2.1).none hP (c_X0_price hfl hs0 D cI cB cJ bA tA d.2.2.1 d.1 x3 h) q216 v_X0_price rfl rfl rfl rfl ⟨(Nat.le_of_ble_eq_true rfl), (Nat.le_of_ble_eq_true rfl)⟩ ⟨(Nat.le_of_ble_eq_true rfl), (Nat.le_of_ble_eq_true rfl)⟩ hl.1 rfl (lv_room (Nat.le_of_ble_eq_true rfl)) dX2_owes_39 (fun r39 h => ?_)
          refine lv_iadd hx hb dX2_owes_42 ?_
          refine lv_istore_n (lv' := [(2, .int (x2 + r39)), (0, .ref (dA 0)), (1, .int p0), (3, .int x3)]) hx hb dX2_owes_43 rfl hl (by decide) rfl (fun ls hl => ?_)
          refine W.widen (k := 1) (n := 6) (Nat.le_of_ble_eq_true rfl) (Nat.le_of_ble_eq_true rfl) ?_
          exact k44 _ ih (x2 + r39) x3  _ _ hP hD hS _ (lv_sub hl [1, 2, 0, 3] rfl) h
  unfold wpX2_owes at h
  refine lv_aload_n hx hb dX2_owes_0 rfl (lv_at hl 0 rfl) ?_
  refine lv_iload_n hx hb dX2_owes_1 rfl (lv_at hl 1 rfl) ?_
  refine z_XV (As := [.int p0]) (rest := []) (wr := ([] : va_W)) (wN := (fun _ : Unit => wD cI dA bA aA tA d)) [0, 1, 2, 3, 4, 5, 6, 7, 8, 9, 10, 11, 12, 13, 14, 15, 16, 17, 18, 19, 20, 21] [] [0, 1, 2, 3, 4, 5, 6, 7, 8, 9, 10, 11, 12, 13, 14, 15, 16, 17, 18, 19, 20, 21] [0, 1, 2, 3, 4, 5, 6, 7, 8, 9, 10, 11, 12, 13, 14, 15, 16, 17, 18, 19, 20, 21] C hG hA hP hD hS (x_X2_requireParty hfl hs0 D cI cB cJ dA bA aA tA d p0 h) q229 v_X2_requireParty rfl rfl ⟨by decide, by decide, by decide⟩ (by decide) (fun _ => rfl) rfl rfl rfl rfl ⟨(Nat.le_of_ble_eq_true rfl), (Nat.le_of_ble_eq_true rfl)⟩ ⟨(Nat.le_of_ble_eq_true rfl), (Nat.le_of_ble_eq_true rfl)⟩ hl.1 rfl (lv_room (Nat.le_of_ble_eq_true rfl)) dX2_owes_2 (fun E ce q9 H locs hE hP hS hce hcv hcl => zX_out C hnt hE hP hS hce hcv hcl (Nat.le_of_ble_eq_true rfl) (Nat.le_of_ble_eq_true rfl)) (fun _ H locs h hP hD hS => ?_)
  have hP : va_P D vwCl (wD cI dA bA aA tA d) H := hP
  have hD : va_D A (wD cI dA bA aA tA d) := hD
  refine lv_iconst (v := 0) hx hb dX2_owes_5 (by decide) ?_
  refine lv_istore_n (lv' := [(2, .int 0), (0, .ref (dA 0)), (1, .int p0)]) hx hb dX2_owes_6 rfl hl (by decide) rfl (fun ls hl => ?_)
  refine lv_iconst (v := 0) hx hb dX2_owes_7 (by decide) ?_
  refine lv_istore_n (lv' := [(3, .int 0), (2, .int 0), (0, .ref (dA 0)), (1, .int p0)]) hx hb dX2_owes_8 rfl hl (by decide) rfl (fun ls hl => ?_)
  refine W.widen (k := 1) (n := 6) (Nat.le_of_ble_eq_true rfl) (Nat.le_of_ble_eq_true rfl) ?_
  obtain ⟨n9, h⟩ := h
  exact k9 n9 0 0  _ _ hP hD hS _ (lv_sub hl [2, 3, 1, 0] rfl) h
def wpX2_owedBetween_b57 (post : Int32 → Prop) (d : DS) (p0 : Int32) (p1 : Int32) (K5 : Int32 → Int32 → Prop) (x3 : Int32) (x4 : Int32) : Prop := K5 x3 (x4 + 1)
def wpX2_owedBetween_b5 (post : Int32 → Prop) (d : DS) (p0 : Int32) (p1 : Int32) : Nat → Int32 → Int32 → Prop
  | 0, _, _ => False
  | n + 1, x3, x4 => (d.2.2.1.2.2.2.2.2.2.2.2.2.2 ≤ x4 → post x3) ∧ (¬ d.2.2.1.2.2.2.2.2.2.2.2.2.2 ≤ x4 → vp_in x4 20 ∧ (((d.2.2.1.1 x4.toNatClampNeg) = p0 → vp_in x4 20 ∧ (((d.2.2.1.2.1 x4.toNatClampNeg) = p1 → wpX0_price (fun r52 => wpX2_owedBetween_b57 post d p0 p1 (fun z0 z1 => wpX2_owedBetween_b5 post d p0 p1 n z0 z1) (x3 + r52) x4) d.2.2.1 d.1 x4) ∧ (¬ (d.2.2.1.2.1 x4.toNatClampNeg) = p1 → wpX2_owedBetween_b57 post d p0 p1 (fun z0 z1 => wpX2_owedBetween_b5 post d p0 p1 n z0 z1) x3 x4))) ∧ (¬ (d.2.2.1.1 x4.toNatClampNeg) = p0 → wpX2_owedBetween_b57 post d p0 p1 (fun z0 z1 => wpX2_owedBetween_b5 post d p0 p1 n z0 z1) x3 x4)))
def wpX2_owedBetween (post : Int32 → Prop) (d : DS) (p0 : Int32) (p1 : Int32) : Prop := ∃ n5 : Nat, wpX2_owedBetween_b5 post d p0 p1 n5 0 0
set_option maxHeartbeats 4000000 in
set_option maxRecDepth 100000 in
theorem c_X2_owedBetween {l : Launch} (hfl : l.stackTraces = false) {s0 : State} (hs0 : zS s0) (D : va_G) (cI cB cJ : ClassId) (dA : Nat → Nat) (bA : Nat → Nat) (aA : Nat → Nat) (tA : Nat → Nat) (d : DS) (p0 : Int32) (p1 : Int32) {post : Int32 → Prop} (h : wpX2_owedBetween post d p0 p1) : zR s0 l D (zty cI cB cJ) yX2_owedBetween cX2_owedBetween 5 (some .int) 2 [.ref (dA 0), .int p0, .int p1] (wD cI dA bA aA tA d) (fun u : Int32 => some (Value.int u)) (fun u : Int32 => post u) := by
  refine zR_intro (by decide +kernel) (Nat.le_of_ble_eq_true rfl) ?_
  intro p e s m below meth c C hP hG ls hl
  have C : zC D (zty cI cB cJ) p s m ([.ref (dA 0), .int p0, .int p1] : List Value).toArray meth c cX2_owedBetween RX2 (some .int) 5 := C
  have hx := C.1
  have hb := C.2.1
  have hts := C.2.2.1
  have hown := C.2.2.2.1
  have hml := C.2.2.2.2.2.1
  have hK := C.2.2.2.2.2.2.2
  have hl : lv_has ls 5 [(0, .ref (dA 0)), (1, .int p0), (2, .int p1)] := hl
  have k57 : ∀ (K5 : Int32 → Int32 → Prop) (hK5 : ∀ (x3 : Int32) (x4 : Int32) (ls : Array Slot), lv_has ls 5 [(0, .ref (dA 0)), (1, .int p0), (2, .int p1), (3, .int x3), (4, .int x4)] → K5 x3 x4 → W p l e (zr 2 0 0) s m ([.ref (dA 0), .int p0, .int p1] : List Value).toArray below meth c s.heap [] 0 0 (MQ below (zQr (fun u : Int32 => some (Value.int u)) (fun u : Int32 => post u)) ([.ref (dA 0), .int p0, .int p1] : List Value).toArray s 0 0 (fun _ => False)) (F0 m 5 ls [])), ∀ (x3 : Int32) (x4 : Int32) (ls : Array Slot), lv_has ls 5 [(0, .ref (dA 0)), (1, .int p0), (2, .int p1), (3, .int x3), (4, .int x4)] → wpX2_owedBetween_b57 post d p0 p1 K5 x3 x4 → W p l e (zr 2 0 0) s m ([.ref (dA 0), .int p0, .int p1] : List Value).toArray below meth c s.heap [] 0 0 (MQ below (zQr (fun u : Int32 => some (Value.int u)) (fun u : Int32 => post u)) ([.ref (dA 0), .int p0, .int p1] : List Value).toArray s 0 0 (fun _ => False)) (F0 m 57 ls []) := by
    intro K5 hK5
    intro x3 x4 ls hl h
    unfold wpX2_owedBetween_b57 at h
    refine lv_iinc (v := (x4 + 1)) (lv' := [(4, .int (x4 + 1)), (0, .ref (dA 0)), (1, .int p0), (2, .int p1), (3, .int x3)]) hx hb dX2_owedBetween_57 hl (k := 4) rfl (by first | rfl | decide) (by decide) rfl (fun ls hl => ?_)
    refine lv_goto (tgt := 5) hx hb dX2_owedBetween_60 (by decide) ?_
    exact hK5 x3 (x4 + 1)  _ (lv_sub hl [1, 2, 3, 4, 0] rfl) h
  have k5 : ∀ (n : Nat) (x3 : Int32) (x4 : Int32) (ls : Array Slot), lv_has ls 5 [(0, .ref (dA 0)), (1, .int p0), (2, .int p1), (3, .int x3), (4, .int x4)] → wpX2_owedBetween_b5 post d p0 p1 n x3 x4 → W p l e (zr 2 0 0) s m ([.ref (dA 0), .int p0, .int p1] : List Value).toArray below meth c s.heap [] 0 0 (MQ below (zQr (fun u : Int32 => some (Value.int u)) (fun u : Int32 => post u)) ([.ref (dA 0), .int p0, .int p1] : List Value).toArray s 0 0 (fun _ => False)) (F0 m 5 ls []) := by
    intro n
    induction n with
    | zero =>
      intro x3 x4 ls hl h
      exact h.elim
    | succ n ih =>
      intro x3 x4 ls hl h
      rw [wpX2_owedBetween_b5] at h
      refine lv_iload hx hb dX2_owedBetween_5 (lv_at hl 4 rfl) ?_
      refine lv_aload_n hx hb dX2_owedBetween_7 rfl (lv_at hl 0 rfl) ?_
      refine z_get C f_X2_10 hP (q0 := 0) rfl rfl dX2_owedBetween_8 ?_
      refine z_get C f_X2_59 hP (q0 := 11) rfl rfl dX2_owedBetween_11 ?_
      refine lv_icmp_ge (tgt := 63) hx hb dX2_owedBetween_14 (by decide) (fun c14 => ?_) (fun c14 => ?_)
      · have h := h.1 c14
        refine lv_iload_n hx hb dX2_owedBetween_63 rfl (lv_at hl 3 rfl) ?_
        exact zR_iret C x3 rfl h dX2_owedBetween_64
      · have h := h.2 c14
        refine lv_aload_n hx hb dX2_owedBetween_17 rfl (lv_at hl 0 rfl) ?_
        refine z_get C f_X2_10 hP (q0 := 0) rfl rfl dX2_owedBetween_18 ?_
        refine z_get C f_X2_134 hP (q0 := 11) rfl rfl dX2_owedBetween_21 ?_
        refine lv_iload hx hb dX2_owedBetween_24 (lv_at hl 4 rfl) ?_
        obtain ⟨g9, h⟩ := h
        refine va_iald hx hb hK hP 12 0 rfl rfl g9 dX2_owedBetween_26 ?_
        refine lv_iload_n hx hb dX2_owedBetween_27 rfl (lv_at hl 1 rfl) ?_
        refine lv_icmp_ne (tgt := 57) hx hb dX2_owedBetween_28 (by decide) (fun c28 => ?_) (fun c28 => ?_)
        · have h := h.2 c28
          exact k57 _ ih x3 x4  _ (lv_sub hl [0, 1, 2, 3, 4] rfl) h
        · have h := h.1 c28
          refine lv_aload_n hx hb dX2_owedBetween_31 rfl (lv_at hl 0 rfl) ?_
          refine z_get C f_X2_10 hP (q0 := 0) rfl rfl dX2_owedBetween_32 ?_
          refine z_get C f_X2_210 hP (q0 := 11) rfl rfl dX2_owedBetween_35 ?_
          refine lv_iload hx hb dX2_owedBetween_38 (lv_at hl 4 rfl) ?_
          obtain ⟨g9, h⟩ := h
          refine va_iald hx hb hK hP 13 0 rfl rfl g9 dX2_owedBetween_40 ?_
          refine lv_iload_n hx hb dX2_owedBetween_41 rfl (lv_at hl 2 rfl) ?_
          refine lv_icmp_ne (tgt := 57) hx hb dX2_owedBetween_42 (by decide) (fun c42 => ?_) (fun c42 => ?_)
          · have h := h.2 c42
            exact k57 _ ih x3 x4  _ (lv_sub hl [0, 1, 2, 3, 4] rfl) h
          · have h := h.1 c42
            refine lv_iload_n hx hb dX2_owedBetween_45 rfl (lv_at hl 3 rfl) ?_
            refine lv_aload_n hx hb dX2_owedBetween_46 rfl (lv_at hl 0 rfl) ?_
            refine z_get C f_X2_21 hP (q0 := 0) rfl rfl dX2_owedBetween_47 ?_
            refine lv_iload hx hb dX2_owedBetween_50 (lv_at hl 4 rfl) ?_
            refine z_RV (As := [.int x4]) (rest := [.int x3]) [1, 2, 3, 4, 5, 11, 12, 13, 14, 15, 16, 17, 18, 19, 20, 21] C hG hP (c_X0_price hfl hs0 D cI cB cJ bA tA d.2.2.1 d.1 x4 h) q216 v_X0_price rfl rfl rfl rfl ⟨(Nat.le_of_ble_eq_true rfl), (Nat.le_of_ble_eq_true rfl)⟩ ⟨(Nat.le_of_ble_eq_true rfl), (Nat.le_of_ble_eq_true rfl)⟩ hl.1 rfl (lv_room (Nat.le_of_ble_eq_true rfl)) dX2_owedBetween_52 (fun r52 h => ?_)
            refine lv_iadd hx hb dX2_owedBetween_55 ?_
            refine lv_istore_n (lv' := [(3, .int (x3 + r52)), (0, .ref (dA 0)), (1, .int p0), (2, .int p1), (4, .int x4)]) hx hb dX2_owedBetween_56 rfl hl (by decide) rfl (fun ls hl => ?_)
            exact k57 _ ih (x3 + r52) x4  _ (lv_sub hl [1, 2, 3, 0, 4] rfl) h
  unfold wpX2_owedBetween at h
  refine lv_iconst (v := 0) hx hb dX2_owedBetween_0 (by decide) ?_
  refine lv_istore_n (lv' := [(3, .int 0), (0, .ref (dA 0)), (1, .int p0), (2, .int p1)]) hx hb dX2_owedBetween_1 rfl hl (by decide) rfl (fun ls hl => ?_)
  refine lv_iconst (v := 0) hx hb dX2_owedBetween_2 (by decide) ?_
  refine lv_istore (lv' := [(4, .int 0), (3, .int 0), (0, .ref (dA 0)), (1, .int p0), (2, .int p1)]) hx hb dX2_owedBetween_3 hl (by decide) rfl (fun ls hl => ?_)
  obtain ⟨n9, h⟩ := h
  exact k5 n9 0 0  _ (lv_sub hl [2, 3, 4, 1, 0] rfl) h
def wpX2_balance (post : Int32 → Prop) (px : String → Prop) (d : DS) (p0 : Int32) (p1 : Int32) : Prop := wpX2_requireParty (wpX2_requireParty (wpX2_owedBetween (fun r13 => wpX2_owedBetween (fun r19 => post (r13 - r19)) d p0 p1) d p1 p0) px d p1) px d p0
set_option maxHeartbeats 4000000 in
set_option maxRecDepth 100000 in
theorem c_X2_balance {l : Launch} (hfl : l.stackTraces = false) {s0 : State} (hs0 : zS s0) (D : va_G) (cI cB cJ : ClassId) (dA : Nat → Nat) (bA : Nat → Nat) (aA : Nat → Nat) (tA : Nat → Nat) (d : DS) (p0 : Int32) (p1 : Int32) {post : Int32 → Prop} (h : wpX2_balance post (fun _ => False) d p0 p1) : zR s0 l D (zty cI cB cJ) yX2_balance cX2_balance 3 (some .int) 3 [.ref (dA 0), .int p0, .int p1] (wD cI dA bA aA tA d) (fun u : Int32 => some (Value.int u)) (fun u : Int32 => post u) := by
  refine zR_intro (by decide +kernel) (Nat.le_of_ble_eq_true rfl) ?_
  intro p e s m below meth c C hP hG ls hl
  have C : zC D (zty cI cB cJ) p s m ([.ref (dA 0), .int p0, .int p1] : List Value).toArray meth c cX2_balance RX2 (some .int) 3 := C
  have hx := C.1
  have hb := C.2.1
  have hts := C.2.2.1
  have hown := C.2.2.2.1
  have hml := C.2.2.2.2.2.1
  have hK := C.2.2.2.2.2.2.2
  have hl : lv_has ls 3 [(0, .ref (dA 0)), (1, .int p0), (2, .int p1)] := hl
  unfold wpX2_balance at h
  refine lv_aload_n hx hb dX2_balance_0 rfl (lv_at hl 0 rfl) ?_
  refine lv_iload_n hx hb dX2_balance_1 rfl (lv_at hl 1 rfl) ?_
  refine z_RV (As := [.int p0]) (rest := []) [0, 1, 2, 3, 4, 5, 6, 7, 8, 9, 10, 11, 12, 13, 14, 15, 16, 17, 18, 19, 20, 21] C hG hP (c_X2_requireParty hfl hs0 D cI cB cJ dA bA aA tA d p0 h) q229 v_X2_requireParty rfl rfl rfl rfl ⟨(Nat.le_of_ble_eq_true rfl), (Nat.le_of_ble_eq_true rfl)⟩ ⟨(Nat.le_of_ble_eq_true rfl), (Nat.le_of_ble_eq_true rfl)⟩ hl.1 rfl (lv_room (Nat.le_of_ble_eq_true rfl)) dX2_balance_2 (fun u h => ?_)
  refine lv_aload_n hx hb dX2_balance_5 rfl (lv_at hl 0 rfl) ?_
  refine lv_iload_n hx hb dX2_balance_6 rfl (lv_at hl 2 rfl) ?_
  refine z_RV (As := [.int p1]) (rest := []) [0, 1, 2, 3, 4, 5, 6, 7, 8, 9, 10, 11, 12, 13, 14, 15, 16, 17, 18, 19, 20, 21] C hG hP (c_X2_requireParty hfl hs0 D cI cB cJ dA bA aA tA d p1 h) q229 v_X2_requireParty rfl rfl rfl rfl ⟨(Nat.le_of_ble_eq_true rfl), (Nat.le_of_ble_eq_true rfl)⟩ ⟨(Nat.le_of_ble_eq_true rfl), (Nat.le_of_ble_eq_true rfl)⟩ hl.1 rfl (lv_room (Nat.le_of_ble_eq_true rfl)) dX2_balance_7 (fun u h => ?_)
  refine lv_aload_n hx hb dX2_balance_10 rfl (lv_at hl 0 rfl) ?_
  refine lv_iload_n hx hb dX2_balance_11 rfl (lv_at hl 2 rfl) ?_
  refine lv_iload_n hx hb dX2_balance_12 rfl (lv_at hl 1 rfl) ?_
  refine z_RV (As := [.int p1, .int p0]) (rest := []) [0, 1, 2, 3, 4, 5, 6, 7, 8, 9, 10, 11, 12, 13, 14, 15, 16, 17, 18, 19, 20, 21] C hG hP (c_X2_owedBetween hfl hs0 D cI cB cJ dA bA aA tA d p1 p0 h) q250 v_X2_owedBetween rfl rfl rfl rfl ⟨(Nat.le_of_ble_eq_true rfl), (Nat.le_of_ble_eq_true rfl)⟩ ⟨(Nat.le_of_ble_eq_true rfl), (Nat.le_of_ble_eq_true rfl)⟩ hl.1 rfl (lv_room (Nat.le_of_ble_eq_true rfl)) dX2_balance_13 (fun r13 h => ?_)
  refine lv_aload_n hx hb dX2_balance_16 rfl (lv_at hl 0 rfl) ?_
  refine lv_iload_n hx hb dX2_balance_17 rfl (lv_at hl 1 rfl) ?_
  refine lv_iload_n hx hb dX2_balance_18 rfl (lv_at hl 2 rfl) ?_
  refine z_RV (As := [.int p0, .int p1]) (rest := [.int r13]) [0, 1, 2, 3, 4, 5, 6, 7, 8, 9, 10, 11, 12, 13, 14, 15, 16, 17, 18, 19, 20, 21] C hG hP (c_X2_owedBetween hfl hs0 D cI cB cJ dA bA aA tA d p0 p1 h) q250 v_X2_owedBetween rfl rfl rfl rfl ⟨(Nat.le_of_ble_eq_true rfl), (Nat.le_of_ble_eq_true rfl)⟩ ⟨(Nat.le_of_ble_eq_true rfl), (Nat.le_of_ble_eq_true rfl)⟩ hl.1 rfl (lv_room (Nat.le_of_ble_eq_true rfl)) dX2_balance_19 (fun r19 h => ?_)
  refine lv_isub hx hb dX2_balance_22 ?_
  exact zR_iret C (r13 - r19) rfl h dX2_balance_23
set_option maxHeartbeats 4000000 in
set_option maxRecDepth 100000 in
theorem x_X2_balance {l : Launch} (hfl : l.stackTraces = false) {s0 : State} (hs0 : zS s0) (D : va_G) (cI cB cJ : ClassId) (dA : Nat → Nat) (bA : Nat → Nat) (aA : Nat → Nat) (tA : Nat → Nat) (d : DS) (p0 : Int32) (p1 : Int32) {post : Int32 → Prop} {px : String → Prop} (h : wpX2_balance post px d p0 p1) : zX s0 l D (zty cI cB cJ) yX2_balance cX2_balance 3 (some .int) 7 2 12 [.ref (dA 0), .int p0, .int p1] (wD cI dA bA aA tA d) (fun u : Int32 => some (Value.int u)) (fun u : Int32 => post u) (fun _ : Int32 => wD cI dA bA aA tA d) px := by
  refine zX_intro (by decide +kernel) (Nat.le_of_ble_eq_true rfl) ?_
  intro p e s m below meth c A C hnt hA hG hP hD hS ls hl
  have C : zC D (zty cI cB cJ) p s m ([.ref (dA 0), .int p0, .int p1] : List Value).toArray meth c cX2_balance RX2 (some .int) 3 := C
  have hx := C.1
  have hb := C.2.1
  have hts := C.2.2.1
  have hown := C.2.2.2.1
  have hml := C.2.2.2.2.2.1
  have hK := C.2.2.2.2.2.2.2
  have hl : lv_has ls 3 [(0, .ref (dA 0)), (1, .int p0), (2, .int p1)] := hl
  have hP : va_P D vwCl (wD cI dA bA aA tA d) s.heap := hP
  have hD : va_D A (wD cI dA bA aA tA d) := hD
  unfold wpX2_balance at h
  refine lv_aload_n hx hb dX2_balance_0 rfl (lv_at hl 0 rfl) ?_
  refine lv_iload_n hx hb dX2_balance_1 rfl (lv_at hl 1 rfl) ?_
  refine z_XV (As := [.int p0]) (rest := []) (wr := ([] : va_W)) (wN := (fun _ : Unit => wD cI dA bA aA tA d)) [0, 1, 2, 3, 4, 5, 6, 7, 8, 9, 10, 11, 12, 13, 14, 15, 16, 17, 18, 19, 20, 21] [] [0, 1, 2, 3, 4, 5, 6, 7, 8, 9, 10, 11, 12, 13, 14, 15, 16, 17, 18, 19, 20, 21] [0, 1, 2, 3, 4, 5, 6, 7, 8, 9, 10, 11, 12, 13, 14, 15, 16, 17, 18, 19, 20, 21] C hG hA hP hD hS (x_X2_requireParty hfl hs0 D cI cB cJ dA bA aA tA d p0 h) q229 v_X2_requireParty rfl rfl ⟨by decide, by decide, by decide⟩ (by decide) (fun _ => rfl) rfl rfl rfl rfl ⟨(Nat.le_of_ble_eq_true rfl), (Nat.le_of_ble_eq_true rfl)⟩ ⟨(Nat.le_of_ble_eq_true rfl), (Nat.le_of_ble_eq_true rfl)⟩ hl.1 rfl (lv_room (Nat.le_of_ble_eq_true rfl)) dX2_balance_2 (fun E ce q9 H locs hE hP hS hce hcv hcl => zX_out C hnt hE hP hS hce hcv hcl (Nat.le_of_ble_eq_true rfl) (Nat.le_of_ble_eq_true rfl)) (fun _ H locs h hP hD hS => ?_)
  have hP : va_P D vwCl (wD cI dA bA aA tA d) H := hP
  have hD : va_D A (wD cI dA bA aA tA d) := hD
  refine lv_aload_n hx hb dX2_balance_5 rfl (lv_at hl 0 rfl) ?_
  refine lv_iload_n hx hb dX2_balance_6 rfl (lv_at hl 2 rfl) ?_
  refine z_XV (As := [.int p1]) (rest := []) (wr := ([] : va_W)) (wN := (fun _ : Unit => wD cI dA bA aA tA d)) [0, 1, 2, 3, 4, 5, 6, 7, 8, 9, 10, 11, 12, 13, 14, 15, 16, 17, 18, 19, 20, 21] [] [0, 1, 2, 3, 4, 5, 6, 7, 8, 9, 10, 11, 12, 13, 14, 15, 16, 17, 18, 19, 20, 21] [0, 1, 2, 3, 4, 5, 6, 7, 8, 9, 10, 11, 12, 13, 14, 15, 16, 17, 18, 19, 20, 21] C hG hA hP hD hS (x_X2_requireParty hfl hs0 D cI cB cJ dA bA aA tA d p1 h) q229 v_X2_requireParty rfl rfl ⟨by decide, by decide, by decide⟩ (by decide) (fun _ => rfl) rfl rfl rfl rfl ⟨(Nat.le_of_ble_eq_true rfl), (Nat.le_of_ble_eq_true rfl)⟩ ⟨(Nat.le_of_ble_eq_true rfl), (Nat.le_of_ble_eq_true rfl)⟩ hl.1 rfl (lv_room (Nat.le_of_ble_eq_true rfl)) dX2_balance_7 (fun E ce q9 H locs hE hP hS hce hcv hcl => zX_out C hnt hE hP hS hce hcv hcl (Nat.le_of_ble_eq_true rfl) (Nat.le_of_ble_eq_true rfl)) (fun _ H locs h hP hD hS => ?_)
  have hP : va_P D vwCl (wD cI dA bA aA tA d) H := hP
  have hD : va_D A (wD cI dA bA aA tA d) := hD
  refine lv_aload_n hx hb dX2_balance_10 rfl (lv_at hl 0 rfl) ?_
  refine lv_iload_n hx hb dX2_balance_11 rfl (lv_at hl 2 rfl) ?_
  refine lv_iload_n hx hb dX2_balance_12 rfl (lv_at hl 1 rfl) ?_
  refine z_RV (As := [.int p1, .int p0]) (rest := []) [0, 1, 2, 3, 4, 5, 6, 7, 8, 9, 10, 11, 12, 13, 14, 15, 16, 17, 18, 19, 20, 21] C (hG.kept hS.1 hS.2.1).none hP (c_X2_owedBetween hfl hs0 D cI cB cJ dA bA aA tA d p1 p0 h) q250 v_X2_owedBetween rfl rfl rfl rfl ⟨(Nat.le_of_ble_eq_true rfl), (Nat.le_of_ble_eq_true rfl)⟩ ⟨(Nat.le_of_ble_eq_true rfl), (Nat.le_of_ble_eq_true rfl)⟩ hl.1 rfl (lv_room (Nat.le_of_ble_eq_true rfl)) dX2_balance_13 (fun r13 h => ?_)
  refine lv_aload_n hx hb dX2_balance_16 rfl (lv_at hl 0 rfl) ?_
  refine lv_iload_n hx hb dX2_balance_17 rfl (lv_at hl 1 rfl) ?_
  refine lv_iload_n hx hb dX2_balance_18 rfl (lv_at hl 2 rfl) ?_
  refine z_RV (As := [.int p0, .int p1]) (rest := [.int r13]) [0, 1, 2, 3, 4, 5, 6, 7, 8, 9, 10, 11, 12, 13, 14, 15, 16, 17, 18, 19, 20, 21] C (hG.kept hS.1 hS.2.1).none hP (c_X2_owedBetween hfl hs0 D cI cB cJ dA bA aA tA d p0 p1 h) q250 v_X2_owedBetween rfl rfl rfl rfl ⟨(Nat.le_of_ble_eq_true rfl), (Nat.le_of_ble_eq_true rfl)⟩ ⟨(Nat.le_of_ble_eq_true rfl), (Nat.le_of_ble_eq_true rfl)⟩ hl.1 rfl (lv_room (Nat.le_of_ble_eq_true rfl)) dX2_balance_19 (fun r19 h => ?_)
  refine lv_isub hx hb dX2_balance_22 ?_
  exact vx_ret (zW_iret C (r13 - r19) rfl h hP hD hS (Nat.le_of_ble_eq_true rfl) (Nat.le_of_ble_eq_true rfl) dX2_balance_23)
def wpX2_weakest_b42 (post : Int32 → Prop) (d : DS) (K6 : Int32 → Int32 → Int32 → Prop) (x1 : Int32) (x2 : Int32) (x3 : Int32) : Prop := K6 x1 x2 (x3 + 1)
def wpX2_weakest_b6 (post : Int32 → Prop) (d : DS) : Nat → Int32 → Int32 → Int32 → Prop
  | 0, _, _, _ => False
  | n + 1, x1, x2, x3 => (d.2.2.2.1 ≤ x3 → post x1) ∧ (¬ d.2.2.2.1 ≤ x3 → wpX2_owes (fun r16 => vp_in x3 6 ∧ (((r16 - (d.1.1 x3.toNatClampNeg)) ≤ x2 → wpX2_weakest_b42 post d (fun z0 z1 z2 => wpX2_weakest_b6 post d n z0 z1 z2) x1 x2 x3) ∧ (¬ (r16 - (d.1.1 x3.toNatClampNeg)) ≤ x2 → wpX2_weakest_b42 post d (fun z0 z1 z2 => wpX2_weakest_b6 post d n z0 z1 z2) x3 (r16 - (d.1.1 x3.toNatClampNeg)) x3))) (fun _ : String => False) d x3)
def wpX2_weakest (post : Int32 → Prop) (d : DS) : Prop := ∃ n6 : Nat, wpX2_weakest_b6 post d n6 (-1) 0 0
set_option maxHeartbeats 4000000 in
set_option maxRecDepth 100000 in
theorem c_X2_weakest {l : Launch} (hfl : l.stackTraces = false) {s0 : State} (hs0 : zS s0) (D : va_G) (cI cB cJ : ClassId) (dA : Nat → Nat) (bA : Nat → Nat) (aA : Nat → Nat) (tA : Nat → Nat) (d : DS) {post : Int32 → Prop} (h : wpX2_weakest post d) : zR s0 l D (zty cI cB cJ) yX2_weakest cX2_weakest 5 (some .int) 3 [.ref (dA 0)] (wD cI dA bA aA tA d) (fun u : Int32 => some (Value.int u)) (fun u : Int32 => post u) := by
  refine zR_intro (by decide +kernel) (Nat.le_of_ble_eq_true rfl) ?_
  intro p e s m below meth c C hP hG ls hl
  have C : zC D (zty cI cB cJ) p s m ([.ref (dA 0)] : List Value).toArray meth c cX2_weakest RX2 (some .int) 5 := C
  have hx := C.1
  have hb := C.2.1
  have hts := C.2.2.1
  have hown := C.2.2.2.1
  have hml := C.2.2.2.2.2.1
  have hK := C.2.2.2.2.2.2.2
  have hl : lv_has ls 5 [(0, .ref (dA 0))] := hl
  have k42 : ∀ (K6 : Int32 → Int32 → Int32 → Prop) (hK6 : ∀ (x1 : Int32) (x2 : Int32) (x3 : Int32) (ls : Array Slot), lv_has ls 5 [(0, .ref (dA 0)), (1, .int x1), (2, .int x2), (3, .int x3)] → K6 x1 x2 x3 → W p l e (zr 3 0 0) s m ([.ref (dA 0)] : List Value).toArray below meth c s.heap [] 0 0 (MQ below (zQr (fun u : Int32 => some (Value.int u)) (fun u : Int32 => post u)) ([.ref (dA 0)] : List Value).toArray s 0 0 (fun _ => False)) (F0 m 6 ls [])), ∀ (x1 : Int32) (x2 : Int32) (x3 : Int32) (ls : Array Slot), lv_has ls 5 [(0, .ref (dA 0)), (1, .int x1), (2, .int x2), (3, .int x3)] → wpX2_weakest_b42 post d K6 x1 x2 x3 → W p l e (zr 3 0 0) s m ([.ref (dA 0)] : List Value).toArray below meth c s.heap [] 0 0 (MQ below (zQr (fun u : Int32 => some (Value.int u)) (fun u : Int32 => post u)) ([.ref (dA 0)] : List Value).toArray s 0 0 (fun _ => False)) (F0 m 42 ls []) := by
    intro K6 hK6
    intro x1 x2 x3 ls hl h
    unfold wpX2_weakest_b42 at h
    refine lv_iinc (v := (x3 + 1)) (lv' := [(3, .int (x3 + 1)), (0, .ref (dA 0)), (1, .int x1), (2, .int x2)]) hx hb dX2_weakest_42 hl (k := 3) rfl (by first | rfl | decide) (by decide) rfl (fun ls hl => ?_)
    refine lv_goto (tgt := 6) hx hb dX2_weakest_45 (by decide) ?_
    exact hK6 x1 x2 (x3 + 1)  _ (lv_sub hl [1, 2, 3, 0] rfl) h
  have k6 : ∀ (n : Nat) (x1 : Int32) (x2 : Int32) (x3 : Int32) (ls : Array Slot), lv_has ls 5 [(0, .ref (dA 0)), (1, .int x1), (2, .int x2), (3, .int x3)] → wpX2_weakest_b6 post d n x1 x2 x3 → W p l e (zr 3 0 0) s m ([.ref (dA 0)] : List Value).toArray below meth c s.heap [] 0 0 (MQ below (zQr (fun u : Int32 => some (Value.int u)) (fun u : Int32 => post u)) ([.ref (dA 0)] : List Value).toArray s 0 0 (fun _ => False)) (F0 m 6 ls []) := by
    intro n
    induction n with
    | zero =>
      intro x1 x2 x3 ls hl h
      exact h.elim
    | succ n ih =>
      intro x1 x2 x3 ls hl h
      rw [wpX2_weakest_b6] at h
      refine lv_iload_n hx hb dX2_weakest_6 rfl (lv_at hl 3 rfl) ?_
      refine lv_aload_n hx hb dX2_weakest_7 rfl (lv_at hl 0 rfl) ?_
      refine z_get C f_X2_32 hP (q0 := 0) rfl rfl dX2_weakest_8 ?_
      refine lv_icmp_ge (tgt := 48) hx hb dX2_weakest_11 (by decide) (fun c11 => ?_) (fun c11 => ?_)
      · have h := h.1 c11
        refine lv_iload_n hx hb dX2_weakest_48 rfl (lv_at hl 1 rfl) ?_
        exact zR_iret C x1 rfl h dX2_weakest_49
      · have h := h.2 c11
        refine lv_aload_n hx hb dX2_weakest_14 rfl (lv_at hl 0 rfl) ?_
        refine lv_iload_n hx hb dX2_weakest_15 rfl (lv_at hl 3 rfl) ?_
        refine z_RV (As := [.int x3]) (rest := []) [0, 1, 2, 3, 4, 5, 6, 7, 8, 9, 10, 11, 12, 13, 14, 15, 16, 17, 18, 19, 20, 21] C hG hP (c_X2_owes hfl hs0 D cI cB cJ dA bA aA tA d x3 h) q254 v_X2_owes rfl rfl rfl rfl ⟨(Nat.le_of_ble_eq_true rfl), (Nat.le_of_ble_eq_true rfl)⟩ ⟨(Nat.le_of_ble_eq_true rfl), (Nat.le_of_ble_eq_true rfl)⟩ hl.1 rfl (lv_room (Nat.le_of_ble_eq_true rfl)) dX2_weakest_16 (fun r16 h => ?_)
        refine lv_aload_n hx hb dX2_weakest_19 rfl (lv_at hl 0 rfl) ?_
        refine z_get C f_X2_21 hP (q0 := 0) rfl rfl dX2_weakest_20 ?_
        refine z_get C f_X2_43 hP (q0 := 1) rfl rfl dX2_weakest_23 ?_
        refine lv_iload_n hx hb dX2_weakest_26 rfl (lv_at hl 3 rfl) ?_
        obtain ⟨g9, h⟩ := h
        refine va_iald hx hb hK hP 2 0 rfl rfl g9 dX2_weakest_27 ?_
        refine lv_isub hx hb dX2_weakest_28 ?_
        refine lv_istore (lv' := [(4, .int (r16 - (d.1.1 x3.toNatClampNeg))), (0, .ref (dA 0)), (1, .int x1), (2, .int x2), (3, .int x3)]) hx hb dX2_weakest_29 hl (by decide) rfl (fun ls hl => ?_)
        refine lv_iload hx hb dX2_weakest_31 (lv_at hl 0 rfl) ?_
        refine lv_iload_n hx hb dX2_weakest_33 rfl (lv_at hl 3 rfl) ?_
        refine lv_icmp_le (tgt := 42) hx hb dX2_weakest_34 (by decide) (fun c34 => ?_) (fun c34 => ?_)
        · have h := h.1 c34
          exact k42 _ ih x1 x2 x3  _ (lv_sub hl [1, 2, 3, 4] rfl) h
        · have h := h.2 c34
          refine lv_iload hx hb dX2_weakest_37 (lv_at hl 0 rfl) ?_
          refine lv_istore_n (lv' := [(2, .int (r16 - (d.1.1 x3.toNatClampNeg))), (4, .int (r16 - (d.1.1 x3.toNatClampNeg))), (0, .ref (dA 0)), (1, .int x1), (3, .int x3)]) hx hb dX2_weakest_39 rfl hl (by decide) rfl (fun ls hl => ?_)
          refine lv_iload_n hx hb dX2_weakest_40 rfl (lv_at hl 4 rfl) ?_
          refine lv_istore_n (lv' := [(1, .int x3), (2, .int (r16 - (d.1.1 x3.toNatClampNeg))), (4, .int (r16 - (d.1.1 x3.toNatClampNeg))), (0, .ref (dA 0)), (3, .int x3)]) hx hb dX2_weakest_41 rfl hl (by decide) rfl (fun ls hl => ?_)
          exact k42 _ ih x3 (r16 - (d.1.1 x3.toNatClampNeg)) x3  _ (lv_sub hl [3, 0, 1, 4] rfl) h
  unfold wpX2_weakest at h
  refine lv_iconst (v := (-1)) hx hb dX2_weakest_0 (by decide) ?_
  refine lv_istore_n (lv' := [(1, .int (-1)), (0, .ref (dA 0))]) hx hb dX2_weakest_1 rfl hl (by decide) rfl (fun ls hl => ?_)
  refine lv_iconst (v := 0) hx hb dX2_weakest_2 (by decide) ?_
  refine lv_istore_n (lv' := [(2, .int 0), (1, .int (-1)), (0, .ref (dA 0))]) hx hb dX2_weakest_3 rfl hl (by decide) rfl (fun ls hl => ?_)
  refine lv_iconst (v := 0) hx hb dX2_weakest_4 (by decide) ?_
  refine lv_istore_n (lv' := [(3, .int 0), (2, .int 0), (1, .int (-1)), (0, .ref (dA 0))]) hx hb dX2_weakest_5 rfl hl (by decide) rfl (fun ls hl => ?_)
  obtain ⟨n9, h⟩ := h
  exact k6 n9 (-1) 0 0  _ (lv_sub hl [3, 2, 1, 0] rfl) h
def wpX2_daysUntilFailed (post : Int32 → Prop) (px : String → Prop) (d : DS) (p0 : Int32) : Prop := wpX2_requireDuty (wpX0_isOpen (fun r10 => (r10 = 0 → post (-1)) ∧ (¬ r10 = 0 → vp_in p0 20 ∧ (vp_in p0 20 ∧ (vp_in p0 20 ∧ (((d.1.2.1 p0.toNatClampNeg) = 1 → vp_in p0 20 ∧ (post (((d.1.2.2.2.1 p0.toNatClampNeg) + (d.1.2.2.1 p0.toNatClampNeg)) + (d.2.2.1.2.2.2.2.1 p0.toNatClampNeg)))) ∧ (¬ (d.1.2.1 p0.toNatClampNeg) = 1 → post ((d.1.2.2.2.1 p0.toNatClampNeg) + (d.1.2.2.1 p0.toNatClampNeg)))))))) d.2.2.1 d.1 p0) px d p0
set_option maxHeartbeats 4000000 in
set_option maxRecDepth 100000 in
theorem c_X2_daysUntilFailed {l : Launch} (hfl : l.stackTraces = false) {s0 : State} (hs0 : zS s0) (D : va_G) (cI cB cJ : ClassId) (dA : Nat → Nat) (bA : Nat → Nat) (aA : Nat → Nat) (tA : Nat → Nat) (d : DS) (p0 : Int32) {post : Int32 → Prop} (h : wpX2_daysUntilFailed post (fun _ => False) d p0) : zR s0 l D (zty cI cB cJ) yX2_daysUntilFailed cX2_daysUntilFailed 3 (some .int) 2 [.ref (dA 0), .int p0] (wD cI dA bA aA tA d) (fun u : Int32 => some (Value.int u)) (fun u : Int32 => post u) := by
  refine zR_intro (by decide +kernel) (Nat.le_of_ble_eq_true rfl) ?_
  intro p e s m below meth c C hP hG ls hl
  have C : zC D (zty cI cB cJ) p s m ([.ref (dA 0), .int p0] : List Value).toArray meth c cX2_daysUntilFailed RX2 (some .int) 3 := C
  have hx := C.1
  have hb := C.2.1
  have hts := C.2.2.1
  have hown := C.2.2.2.1
  have hml := C.2.2.2.2.2.1
  have hK := C.2.2.2.2.2.2.2
  have hl : lv_has ls 3 [(0, .ref (dA 0)), (1, .int p0)] := hl
  unfold wpX2_daysUntilFailed at h
  refine lv_aload_n hx hb dX2_daysUntilFailed_0 rfl (lv_at hl 0 rfl) ?_
  refine lv_iload_n hx hb dX2_daysUntilFailed_1 rfl (lv_at hl 1 rfl) ?_
  refine z_RV (As := [.int p0]) (rest := []) [0, 1, 2, 3, 4, 5, 6, 7, 8, 9, 10, 11, 12, 13, 14, 15, 16, 17, 18, 19, 20, 21] C hG hP (c_X2_requireDuty hfl hs0 D cI cB cJ dA bA aA tA d p0 h) q211 v_X2_requireDuty rfl rfl rfl rfl ⟨(Nat.le_of_ble_eq_true rfl), (Nat.le_of_ble_eq_true rfl)⟩ ⟨(Nat.le_of_ble_eq_true rfl), (Nat.le_of_ble_eq_true rfl)⟩ hl.1 rfl (lv_room (Nat.le_of_ble_eq_true rfl)) dX2_daysUntilFailed_2 (fun u h => ?_)
  refine lv_aload_n hx hb dX2_daysUntilFailed_5 rfl (lv_at hl 0 rfl) ?_
  refine z_get C f_X2_21 hP (q0 := 0) rfl rfl dX2_daysUntilFailed_6 ?_
  refine lv_iload_n hx hb dX2_daysUntilFailed_9 rfl (lv_at hl 1 rfl) ?_
  refine z_RV (As := [.int p0]) (rest := []) [1, 2, 3, 4, 5, 11, 12, 13, 14, 15, 16, 17, 18, 19, 20, 21] C hG hP (c_X0_isOpen hfl hs0 D cI cB cJ bA tA d.2.2.1 d.1 p0 h) q224 v_X0_isOpen rfl rfl rfl rfl ⟨(Nat.le_of_ble_eq_true rfl), (Nat.le_of_ble_eq_true rfl)⟩ ⟨(Nat.le_of_ble_eq_true rfl), (Nat.le_of_ble_eq_true rfl)⟩ hl.1 rfl (lv_room (Nat.le_of_ble_eq_true rfl)) dX2_daysUntilFailed_10 (fun r10 h => ?_)
  refine lv_if_ne (tgt := 18) hx hb dX2_daysUntilFailed_13 (by decide) (fun c13 => ?_) (fun c13 => ?_)
  · have h := h.2 c13
    refine lv_aload_n hx hb dX2_daysUntilFailed_18 rfl (lv_at hl 0 rfl) ?_
    refine z_get C f_X2_21 hP (q0 := 0) rfl rfl dX2_daysUntilFailed_19 ?_
    refine z_get C f_X2_106 hP (q0 := 1) rfl rfl dX2_daysUntilFailed_22 ?_
    refine lv_iload_n hx hb dX2_daysUntilFailed_25 rfl (lv_at hl 1 rfl) ?_
    obtain ⟨g9, h⟩ := h
    refine va_iald hx hb hK hP 5 0 rfl rfl g9 dX2_daysUntilFailed_26 ?_
    refine lv_aload_n hx hb dX2_daysUntilFailed_27 rfl (lv_at hl 0 rfl) ?_
    refine z_get C f_X2_21 hP (q0 := 0) rfl rfl dX2_daysUntilFailed_28 ?_
    refine z_get C f_X2_118 hP (q0 := 1) rfl rfl dX2_daysUntilFailed_31 ?_
    refine lv_iload_n hx hb dX2_daysUntilFailed_34 rfl (lv_at hl 1 rfl) ?_
    obtain ⟨g9, h⟩ := h
    refine va_iald hx hb hK hP 4 0 rfl rfl g9 dX2_daysUntilFailed_35 ?_
    refine lv_iadd hx hb dX2_daysUntilFailed_36 ?_
    refine lv_istore_n (lv' := [(2, .int ((d.1.2.2.2.1 p0.toNatClampNeg) + (d.1.2.2.1 p0.toNatClampNeg))), (0, .ref (dA 0)), (1, .int p0)]) hx hb dX2_daysUntilFailed_37 rfl hl (by decide) rfl (fun ls hl => ?_)
    refine lv_aload_n hx hb dX2_daysUntilFailed_38 rfl (lv_at hl 1 rfl) ?_
    refine z_get C f_X2_21 hP (q0 := 0) rfl rfl dX2_daysUntilFailed_39 ?_
    refine z_get C f_X2_89 hP (q0 := 1) rfl rfl dX2_daysUntilFailed_42 ?_
    refine lv_iload_n hx hb dX2_daysUntilFailed_45 rfl (lv_at hl 2 rfl) ?_
    obtain ⟨g9, h⟩ := h
    refine va_iald hx hb hK hP 3 0 rfl rfl g9 dX2_daysUntilFailed_46 ?_
    refine lv_iconst (v := 1) hx hb dX2_daysUntilFailed_47 (by decide) ?_
    refine lv_icmp_ne (tgt := 65) hx hb dX2_daysUntilFailed_48 (by decide) (fun c48 => ?_) (fun c48 => ?_)
    · have h := h.2 c48
      refine lv_iload_n hx hb dX2_daysUntilFailed_65 rfl (lv_at hl 0 rfl) ?_
      exact zR_iret C ((d.1.2.2.2.1 p0.toNatClampNeg) + (d.1.2.2.1 p0.toNatClampNeg)) rfl h dX2_daysUntilFailed_66
    · have h := h.1 c48
      refine lv_iload_n hx hb dX2_daysUntilFailed_51 rfl (lv_at hl 0 rfl) ?_
      refine lv_aload_n hx hb dX2_daysUntilFailed_52 rfl (lv_at hl 1 rfl) ?_
      refine z_get C f_X2_10 hP (q0 := 0) rfl rfl dX2_daysUntilFailed_53 ?_
      refine z_get C f_X2_144 hP (q0 := 11) rfl rfl dX2_daysUntilFailed_56 ?_
      refine lv_iload_n hx hb dX2_daysUntilFailed_59 rfl (lv_at hl 2 rfl) ?_
      obtain ⟨g9, h⟩ := h
      refine va_iald hx hb hK hP 16 0 rfl rfl g9 dX2_daysUntilFailed_60 ?_
      refine lv_iadd hx hb dX2_daysUntilFailed_61 ?_
      refine lv_goto (tgt := 66) hx hb dX2_daysUntilFailed_62 (by decide) ?_
      exact zR_iret C (((d.1.2.2.2.1 p0.toNatClampNeg) + (d.1.2.2.1 p0.toNatClampNeg)) + (d.2.2.1.2.2.2.2.1 p0.toNatClampNeg)) rfl h dX2_daysUntilFailed_66
  · have h := h.1 c13
    refine lv_iconst (v := (-1)) hx hb dX2_daysUntilFailed_16 (by decide) ?_
    exact zR_iret C (-1) rfl h dX2_daysUntilFailed_17
set_option maxHeartbeats 4000000 in
set_option maxRecDepth 100000 in
theorem x_X2_daysUntilFailed {l : Launch} (hfl : l.stackTraces = false) {s0 : State} (hs0 : zS s0) (D : va_G) (cI cB cJ : ClassId) (dA : Nat → Nat) (bA : Nat → Nat) (aA : Nat → Nat) (tA : Nat → Nat) (d : DS) (p0 : Int32) {post : Int32 → Prop} {px : String → Prop} (h : wpX2_daysUntilFailed post px d p0) : zX s0 l D (zty cI cB cJ) yX2_daysUntilFailed cX2_daysUntilFailed 3 (some .int) 7 1 6 [.ref (dA 0), .int p0] (wD cI dA bA aA tA d) (fun u : Int32 => some (Value.int u)) (fun u : Int32 => post u) (fun _ : Int32 => wD cI dA bA aA tA d) px := by
  refine zX_intro (by decide +kernel) (Nat.le_of_ble_eq_true rfl) ?_
  intro p e s m below meth c A C hnt hA hG hP hD hS ls hl
  have C : zC D (zty cI cB cJ) p s m ([.ref (dA 0), .int p0] : List Value).toArray meth c cX2_daysUntilFailed RX2 (some .int) 3 := C
  have hx := C.1
  have hb := C.2.1
  have hts := C.2.2.1
  have hown := C.2.2.2.1
  have hml := C.2.2.2.2.2.1
  have hK := C.2.2.2.2.2.2.2
  have hl : lv_has ls 3 [(0, .ref (dA 0)), (1, .int p0)] := hl
  have hP : va_P D vwCl (wD cI dA bA aA tA d) s.heap := hP
  have hD : va_D A (wD cI dA bA aA tA d) := hD
  unfold wpX2_daysUntilFailed at h
  refine lv_aload_n hx hb dX2_daysUntilFailed_0 rfl (lv_at hl 0 rfl) ?_
  refine lv_iload_n hx hb dX2_daysUntilFailed_1 rfl (lv_at hl 1 rfl) ?_
  refine z_XV (As := [.int p0]) (rest := []) (wr := ([] : va_W)) (wN := (fun _ : Unit => wD cI dA bA aA tA d)) [0, 1, 2, 3, 4, 5, 6, 7, 8, 9, 10, 11, 12, 13, 14, 15, 16, 17, 18, 19, 20, 21] [] [0, 1, 2, 3, 4, 5, 6, 7, 8, 9, 10, 11, 12, 13, 14, 15, 16, 17, 18, 19, 20, 21] [0, 1, 2, 3, 4, 5, 6, 7, 8, 9, 10, 11, 12, 13, 14, 15, 16, 17, 18, 19, 20, 21] C hG hA hP hD hS (x_X2_requireDuty hfl hs0 D cI cB cJ dA bA aA tA d p0 h) q211 v_X2_requireDuty rfl rfl ⟨by decide, by decide, by decide⟩ (by decide) (fun _ => rfl) rfl rfl rfl rfl ⟨(Nat.le_of_ble_eq_true rfl), (Nat.le_of_ble_eq_true rfl)⟩ ⟨(Nat.le_of_ble_eq_true rfl), (Nat.le_of_ble_eq_true rfl)⟩ hl.1 rfl (lv_room (Nat.le_of_ble_eq_true rfl)) dX2_daysUntilFailed_2 (fun E ce q9 H locs hE hP hS hce hcv hcl => zX_out C hnt hE hP hS hce hcv hcl (Nat.le_of_ble_eq_true rfl) (Nat.le_of_ble_eq_true rfl)) (fun _ H locs h hP hD hS => ?_)
  have hP : va_P D vwCl (wD cI dA bA aA tA d) H := hP
  have hD : va_D A (wD cI dA bA aA tA d) := hD
  refine lv_aload_n hx hb dX2_daysUntilFailed_5 rfl (lv_at hl 0 rfl) ?_
  refine z_get C f_X2_21 hP (q0 := 0) rfl rfl dX2_daysUntilFailed_6 ?_
  refine lv_iload_n hx hb dX2_daysUntilFailed_9 rfl (lv_at hl 1 rfl) ?_
  refine z_RV (As := [.int p0]) (rest := []) [1, 2, 3, 4, 5, 11, 12, 13, 14, 15, 16, 17, 18, 19, 20, 21] C (hG.kept hS.1 hS.2.1).none hP (c_X0_isOpen hfl hs0 D cI cB cJ bA tA d.2.2.1 d.1 p0 h) q224 v_X0_isOpen rfl rfl rfl rfl ⟨(Nat.le_of_ble_eq_true rfl), (Nat.le_of_ble_eq_true rfl)⟩ ⟨(Nat.le_of_ble_eq_true rfl), (Nat.le_of_ble_eq_true rfl)⟩ hl.1 rfl (lv_room (Nat.le_of_ble_eq_true rfl)) dX2_daysUntilFailed_10 (fun r10 h => ?_)
  refine lv_if_ne (tgt := 18) hx hb dX2_daysUntilFailed_13 (by decide) (fun c13 => ?_) (fun c13 => ?_)
  · have h := h.2 c13
    refine lv_aload_n hx hb dX2_daysUntilFailed_18 rfl (lv_at hl 0 rfl) ?_
    refine z_get C f_X2_21 hP (q0 := 0) rfl rfl dX2_daysUntilFailed_19 ?_
    refine z_get C f_X2_106 hP (q0 := 1) rfl rfl dX2_daysUntilFailed_22 ?_
    refine lv_iload_n hx hb dX2_daysUntilFailed_25 rfl (lv_at hl 1 rfl) ?_
    obtain ⟨g9, h⟩ := h
    refine va_iald hx hb hK hP 5 0 rfl rfl g9 dX2_daysUntilFailed_26 ?_
    refine lv_aload_n hx hb dX2_daysUntilFailed_27 rfl (lv_at hl 0 rfl) ?_
    refine z_get C f_X2_21 hP (q0 := 0) rfl rfl dX2_daysUntilFailed_28 ?_
    refine z_get C f_X2_118 hP (q0 := 1) rfl rfl dX2_daysUntilFailed_31 ?_
    refine lv_iload_n hx hb dX2_daysUntilFailed_34 rfl (lv_at hl 1 rfl) ?_
    obtain ⟨g9, h⟩ := h
    refine va_iald hx hb hK hP 4 0 rfl rfl g9 dX2_daysUntilFailed_35 ?_
    refine lv_iadd hx hb dX2_daysUntilFailed_36 ?_
    refine lv_istore_n (lv' := [(2, .int ((d.1.2.2.2.1 p0.toNatClampNeg) + (d.1.2.2.1 p0.toNatClampNeg))), (0, .ref (dA 0)), (1, .int p0)]) hx hb dX2_daysUntilFailed_37 rfl hl (by decide) rfl (fun ls hl => ?_)
    refine lv_aload_n hx hb dX2_daysUntilFailed_38 rfl (lv_at hl 1 rfl) ?_
    refine z_get C f_X2_21 hP (q0 := 0) rfl rfl dX2_daysUntilFailed_39 ?_
    refine z_get C f_X2_89 hP (q0 := 1) rfl rfl dX2_daysUntilFailed_42 ?_
    refine lv_iload_n hx hb dX2_daysUntilFailed_45 rfl (lv_at hl 2 rfl) ?_
    obtain ⟨g9, h⟩ := h
    refine va_iald hx hb hK hP 3 0 rfl rfl g9 dX2_daysUntilFailed_46 ?_
    refine lv_iconst (v := 1) hx hb dX2_daysUntilFailed_47 (by decide) ?_
    refine lv_icmp_ne (tgt := 65) hx hb dX2_daysUntilFailed_48 (by decide) (fun c48 => ?_) (fun c48 => ?_)
    · have h := h.2 c48
      refine lv_iload_n hx hb dX2_daysUntilFailed_65 rfl (lv_at hl 0 rfl) ?_
      exact vx_ret (zW_iret C ((d.1.2.2.2.1 p0.toNatClampNeg) + (d.1.2.2.1 p0.toNatClampNeg)) rfl h hP hD hS (Nat.le_of_ble_eq_true rfl) (Nat.le_of_ble_eq_true rfl) dX2_daysUntilFailed_66)
    · have h := h.1 c48
      refine lv_iload_n hx hb dX2_daysUntilFailed_51 rfl (lv_at hl 0 rfl) ?_
      refine lv_aload_n hx hb dX2_daysUntilFailed_52 rfl (lv_at hl 1 rfl) ?_
      refine z_get C f_X2_10 hP (q0 := 0) rfl rfl dX2_daysUntilFailed_53 ?_
      refine z_get C f_X2_144 hP (q0 := 11) rfl rfl dX2_daysUntilFailed_56 ?_
      refine lv_iload_n hx hb dX2_daysUntilFailed_59 rfl (lv_at hl 2 rfl) ?_
      obtain ⟨g9, h⟩ := h
      refine va_iald hx hb hK hP 16 0 rfl rfl g9 dX2_daysUntilFailed_60 ?_
      refine lv_iadd hx hb dX2_daysUntilFailed_61 ?_
      refine lv_goto (tgt := 66) hx hb dX2_daysUntilFailed_62 (by decide) ?_
      exact vx_ret (zW_iret C (((d.1.2.2.2.1 p0.toNatClampNeg) + (d.1.2.2.1 p0.toNatClampNeg)) + (d.2.2.1.2.2.2.2.1 p0.toNatClampNeg)) rfl h hP hD hS (Nat.le_of_ble_eq_true rfl) (Nat.le_of_ble_eq_true rfl) dX2_daysUntilFailed_66)
  · have h := h.1 c13
    refine lv_iconst (v := (-1)) hx hb dX2_daysUntilFailed_16 (by decide) ?_
    exact vx_ret (zW_iret C (-1) rfl h hP hD hS (Nat.le_of_ble_eq_true rfl) (Nat.le_of_ble_eq_true rfl) dX2_daysUntilFailed_17)
def wpX2_coinsAhead_b24 (post : Int32 → DS → Prop) (p0 : Int32) (p1 : Int32) (p2 : Int32) (d_ : DS) : Prop := wpX0_live (fun r29 b29 => vp_in p0 6 ∧ (post (b29.1 p0.toNatClampNeg) (d_.1, b29, d_.2.2.1, d_.2.2.2.1, d_.2.2.2.2))) d_.2.2.1 d_.2.1 p2
def wpX2_coinsAhead (post : Int32 → DS → Prop) (d : DS) (p0 : Int32) (p1 : Int32) (p2 : Int32) : Prop := wpX0_copyFrom (fun b8 => (p1 = (-1) → wpX2_coinsAhead_b24 post p0 p1 p2 (d.1, b8, d.2.2.1, d.2.2.2.1, d.2.2.2.2)) ∧ (¬ p1 = (-1) → wpX0_settle (fun b21 => wpX2_coinsAhead_b24 post p0 p1 p2 (d.1, b21, d.2.2.1, d.2.2.2.1, d.2.2.2.2)) d.2.2.1 b8 p1)) d.1 d.2.1
set_option maxHeartbeats 4000000 in
set_option maxRecDepth 100000 in
theorem c_X2_coinsAhead {l : Launch} (hfl : l.stackTraces = false) {s0 : State} (hs0 : zS s0) (D : va_G) (cI cB cJ : ClassId) (dA : Nat → Nat) (bA : Nat → Nat) (aA : Nat → Nat) (tA : Nat → Nat) (d : DS) (p0 : Int32) (p1 : Int32) (p2 : Int32) {post : Int32 → DS → Prop} (h : wpX2_coinsAhead post d p0 p1 p2) : zW s0 l D (zty cI cB cJ) yX2_coinsAhead cX2_coinsAhead 4 (some .int) 5 0 0 [.ref (dA 0), .int p0, .int p1, .int p2] (wD cI dA bA aA tA d) (fun u : Int32 × DS => some (Value.int u.1)) (fun u : Int32 × DS => post u.1 u.2) (fun u : Int32 × DS => wD cI dA bA aA tA u.2) := by
  refine zW_intro (by decide +kernel) (Nat.le_of_ble_eq_true rfl) ?_
  intro p e s m below meth c A C hnm hA hG hP hD hS ls hl
  have C : zC D (zty cI cB cJ) p s m ([.ref (dA 0), .int p0, .int p1, .int p2] : List Value).toArray meth c cX2_coinsAhead RX2 (some .int) 4 := C
  have hx := C.1
  have hb := C.2.1
  have hts := C.2.2.1
  have hown := C.2.2.2.1
  have hml := C.2.2.2.2.2.1
  have hK := C.2.2.2.2.2.2.2
  have hl : lv_has ls 4 [(0, .ref (dA 0)), (1, .int p0), (2, .int p1), (3, .int p2)] := hl
  have hP : va_P D vwCl (wD cI dA bA aA tA d) s.heap := hP
  have hD : va_D A (wD cI dA bA aA tA d) := hD
  have k24 : ∀ (d_ : DS) (H : Heap) (locs : List Loc), va_P D vwCl (wD cI dA bA aA tA d_) H → va_D A (wD cI dA bA aA tA d_) → va_S A s.heap H locs → ∀ (ls : Array Slot), lv_has ls 4 [(0, .ref (dA 0)), (1, .int p0), (3, .int p2)] → wpX2_coinsAhead_b24 post p0 p1 p2 d_ → W p l e (zr 5 0 0) s m ([.ref (dA 0), .int p0, .int p1, .int p2] : List Value).toArray below meth c H locs 0 0 (MQ below (zQ D (fun u : Int32 × DS => some (Value.int u.1)) (fun u : Int32 × DS => post u.1 u.2) (fun u : Int32 × DS => wD cI dA bA aA tA u.2) A) ([.ref (dA 0), .int p0, .int p1, .int p2] : List Value).toArray s 0 0 A) (F0 m 24 ls []) := by
    intro d_ H locs hP hD hS ls hl h
    unfold wpX2_coinsAhead_b24 at h
    refine lv_aload_n hx hb dX2_coinsAhead_24 rfl (lv_at hl 0 rfl) ?_
    refine z_get C f_X2_25 hP (q0 := 0) rfl rfl dX2_coinsAhead_25 ?_
    refine lv_iload_n hx hb dX2_coinsAhead_28 rfl (lv_at hl 2 rfl) ?_
    refine z_WV (As := [.int p2]) (rest := []) (wr := (List.filterMap (fun i => (wD cI dA bA aA tA d_)[i]?) [0, 1, 2, 3, 4, 5])) (wN := (fun u : Int32 × BS => wD cI dA bA aA tA (d_.1, u.2, d_.2.2.1, d_.2.2.2.1, d_.2.2.2.2))) [6, 7, 8, 9, 10, 11, 12, 13, 14, 15, 16, 17, 18, 19, 20, 21] [0, 1, 2, 3, 4, 5] [0, 1, 2, 3, 4, 5, 6, 7, 8, 9, 10, 11, 12, 13, 14, 15, 16, 17, 18, 19, 20, 21] C hG hA hP hD hS (c_X0_live hfl hs0 D cI cB cJ aA tA d_.2.2.1 d_.2.1 p2 h) q234 v_X0_live rfl rfl ⟨by decide, by decide, by decide⟩ (by decide) (fun _ => rfl) rfl rfl rfl ⟨(Nat.le_of_ble_eq_true rfl), (Nat.le_of_ble_eq_true rfl)⟩ ⟨(Nat.le_of_ble_eq_true rfl), (Nat.le_of_ble_eq_true rfl)⟩ hl.1 rfl (lv_room (Nat.le_of_ble_eq_true rfl)) dX2_coinsAhead_29 (fun u H locs h hP hD hS => ?_)
    obtain ⟨r29, b29⟩ := u
    have hP : va_P D vwCl (wD cI dA bA aA tA (d_.1, b29, d_.2.2.1, d_.2.2.2.1, d_.2.2.2.2)) H := hP
    have hD : va_D A (wD cI dA bA aA tA (d_.1, b29, d_.2.2.1, d_.2.2.2.1, d_.2.2.2.2)) := hD
    refine lv_pop hx hb dX2_coinsAhead_32 rfl ?_
    refine lv_aload_n hx hb dX2_coinsAhead_33 rfl (lv_at hl 0 rfl) ?_
    refine z_get C f_X2_25 hP (q0 := 0) rfl rfl dX2_coinsAhead_34 ?_
    refine z_get C f_X2_43 hP (q0 := 6) rfl rfl dX2_coinsAhead_37 ?_
    refine lv_iload_n hx hb dX2_coinsAhead_40 rfl (lv_at hl 1 rfl) ?_
    obtain ⟨g9, h⟩ := h
    refine va_iald hx hb hK hP 7 0 rfl rfl g9 dX2_coinsAhead_41 ?_
    exact zW_iret C ((b29.1 p0.toNatClampNeg), (d_.1, b29, d_.2.2.1, d_.2.2.2.1, d_.2.2.2.2)) rfl h hP hD hS (Nat.le_of_ble_eq_true rfl) (Nat.le_of_ble_eq_true rfl) dX2_coinsAhead_42
  unfold wpX2_coinsAhead at h
  refine lv_aload_n hx hb dX2_coinsAhead_0 rfl (lv_at hl 0 rfl) ?_
  refine z_get C f_X2_25 hP (q0 := 0) rfl rfl dX2_coinsAhead_1 ?_
  refine lv_aload_n hx hb dX2_coinsAhead_4 rfl (lv_at hl 0 rfl) ?_
  refine z_get C f_X2_21 hP (q0 := 0) rfl rfl dX2_coinsAhead_5 ?_
  refine z_WV (As := [.ref (bA 0)]) (rest := []) (wr := (List.filterMap (fun i => (wD cI dA bA aA tA d)[i]?) [0, 11, 12, 13, 14, 15, 16, 17, 18, 19, 20, 21])) (wN := (fun u : BS => wD cI dA bA aA tA (d.1, u, d.2.2.1, d.2.2.2.1, d.2.2.2.2))) [6, 7, 8, 9, 10, 1, 2, 3, 4, 5] [0, 11, 12, 13, 14, 15, 16, 17, 18, 19, 20, 21] [0, 17, 18, 19, 20, 21, 12, 13, 14, 15, 16, 1, 2, 3, 4, 5, 6, 7, 8, 9, 10, 11] C hG hA hP hD hS (c_X0_copyFrom hfl hs0 D cI cB cJ aA bA tA d.1 d.2.1 h) q260 v_X0_copyFrom rfl rfl ⟨by decide, by decide, by decide⟩ (by decide) (fun _ => rfl) rfl rfl rfl ⟨(Nat.le_of_ble_eq_true rfl), (Nat.le_of_ble_eq_true rfl)⟩ ⟨(Nat.le_of_ble_eq_true rfl), (Nat.le_of_ble_eq_true rfl)⟩ hl.1 rfl (lv_room (Nat.le_of_ble_eq_true rfl)) dX2_coinsAhead_8 (fun u H locs h hP hD hS => ?_)
  obtain ⟨b8, rfl⟩ : ∃ z, z = u := ⟨_, rfl⟩
  have hP : va_P D vwCl (wD cI dA bA aA tA (d.1, b8, d.2.2.1, d.2.2.2.1, d.2.2.2.2)) H := hP
  have hD : va_D A (wD cI dA bA aA tA (d.1, b8, d.2.2.1, d.2.2.2.1, d.2.2.2.2)) := hD
  refine lv_iload_n hx hb dX2_coinsAhead_11 rfl (lv_at hl 2 rfl) ?_
  refine lv_iconst (v := (-1)) hx hb dX2_coinsAhead_12 (by decide) ?_
  refine lv_icmp_eq (tgt := 24) hx hb dX2_coinsAhead_13 (by decide) (fun c13 => ?_) (fun c13 => ?_)
  · have h := h.1 c13
    refine W.widen (k := 0) (n := 0) (Nat.le_of_ble_eq_true rfl) (Nat.le_of_ble_eq_true rfl) ?_
    exact k24 (d.1, b8, d.2.2.1, d.2.2.2.1, d.2.2.2.2)  _ _ hP hD hS _ (lv_sub hl [0, 1, 3] rfl) h
  · have h := h.2 c13
    refine lv_aload_n hx hb dX2_coinsAhead_16 rfl (lv_at hl 0 rfl) ?_
    refine z_get C f_X2_25 hP (q0 := 0) rfl rfl dX2_coinsAhead_17 ?_
    refine lv_iload_n hx hb dX2_coinsAhead_20 rfl (lv_at hl 2 rfl) ?_
    refine z_WV (As := [.int p1]) (rest := []) (wr := (List.filterMap (fun i => (wD cI dA bA aA tA (d.1, b8, d.2.2.1, d.2.2.2.1, d.2.2.2.2))[i]?) [0, 1, 2, 3, 4, 5])) (wN := (fun u : BS => wD cI dA bA aA tA (d.1, u, d.2.2.1, d.2.2.2.1, d.2.2.2.2))) [6, 7, 8, 9, 10, 11, 12, 13, 14, 15, 16, 17, 18, 19, 20, 21] [0, 1, 2, 3, 4, 5] [0, 1, 2, 3, 4, 5, 6, 7, 8, 9, 10, 11, 12, 13, 14, 15, 16, 17, 18, 19, 20, 21] C hG hA hP hD hS (c_X0_settle hfl hs0 D cI cB cJ aA tA d.2.2.1 b8 p1 h) q220 v_X0_settle rfl rfl ⟨by decide, by decide, by decide⟩ (by decide) (fun _ => rfl) rfl rfl rfl ⟨(Nat.le_of_ble_eq_true rfl), (Nat.le_of_ble_eq_true rfl)⟩ ⟨(Nat.le_of_ble_eq_true rfl), (Nat.le_of_ble_eq_true rfl)⟩ hl.1 rfl (lv_room (Nat.le_of_ble_eq_true rfl)) dX2_coinsAhead_21 (fun u H locs h hP hD hS => ?_)
    obtain ⟨b21, rfl⟩ : ∃ z, z = u := ⟨_, rfl⟩
    have hP : va_P D vwCl (wD cI dA bA aA tA (d.1, b21, d.2.2.1, d.2.2.2.1, d.2.2.2.2)) H := hP
    have hD : va_D A (wD cI dA bA aA tA (d.1, b21, d.2.2.1, d.2.2.2.1, d.2.2.2.2)) := hD
    refine W.widen (k := 0) (n := 0) (Nat.le_of_ble_eq_true rfl) (Nat.le_of_ble_eq_true rfl) ?_
    exact k24 (d.1, b21, d.2.2.1, d.2.2.2.1, d.2.2.2.2)  _ _ hP hD hS _ (lv_sub hl [0, 1, 3] rfl) h
def wpX2_purseIn (post : Int32 → DS → Prop) (px : String → Prop) (d : DS) (p0 : Int32) (p1 : Int32) : Prop := wpX2_requireParty (wpX2_requireWithin (wpX2_coinsAhead (fun r16 d16 => post r16 d16) d p0 (-1) p1) px p1 1 60) px d p0
set_option maxHeartbeats 4000000 in
set_option maxRecDepth 100000 in
theorem c_X2_purseIn {l : Launch} (hfl : l.stackTraces = false) {s0 : State} (hs0 : zS s0) (D : va_G) (cI cB cJ : ClassId) (dA : Nat → Nat) (bA : Nat → Nat) (aA : Nat → Nat) (tA : Nat → Nat) (d : DS) (p0 : Int32) (p1 : Int32) {post : Int32 → DS → Prop} (h : wpX2_purseIn post (fun _ => False) d p0 p1) : zW s0 l D (zty cI cB cJ) yX2_purseIn cX2_purseIn 3 (some .int) 6 0 0 [.ref (dA 0), .int p0, .int p1] (wD cI dA bA aA tA d) (fun u : Int32 × DS => some (Value.int u.1)) (fun u : Int32 × DS => post u.1 u.2) (fun u : Int32 × DS => wD cI dA bA aA tA u.2) := by
  refine zW_intro (by decide +kernel) (Nat.le_of_ble_eq_true rfl) ?_
  intro p e s m below meth c A C hnm hA hG hP hD hS ls hl
  have C : zC D (zty cI cB cJ) p s m ([.ref (dA 0), .int p0, .int p1] : List Value).toArray meth c cX2_purseIn RX2 (some .int) 3 := C
  have hx := C.1
  have hb := C.2.1
  have hts := C.2.2.1
  have hown := C.2.2.2.1
  have hml := C.2.2.2.2.2.1
  have hK := C.2.2.2.2.2.2.2
  have hl : lv_has ls 3 [(0, .ref (dA 0)), (1, .int p0), (2, .int p1)] := hl
  have hP : va_P D vwCl (wD cI dA bA aA tA d) s.heap := hP
  have hD : va_D A (wD cI dA bA aA tA d) := hD
  unfold wpX2_purseIn at h
  refine lv_aload_n hx hb dX2_purseIn_0 rfl (lv_at hl 0 rfl) ?_
  refine lv_iload_n hx hb dX2_purseIn_1 rfl (lv_at hl 1 rfl) ?_
  refine z_RV (As := [.int p0]) (rest := []) [0, 1, 2, 3, 4, 5, 6, 7, 8, 9, 10, 11, 12, 13, 14, 15, 16, 17, 18, 19, 20, 21] C (hG.kept hS.1 hS.2.1).none hP (c_X2_requireParty hfl hs0 D cI cB cJ dA bA aA tA d p0 h) q229 v_X2_requireParty rfl rfl rfl rfl ⟨(Nat.le_of_ble_eq_true rfl), (Nat.le_of_ble_eq_true rfl)⟩ ⟨(Nat.le_of_ble_eq_true rfl), (Nat.le_of_ble_eq_true rfl)⟩ hl.1 rfl (lv_room (Nat.le_of_ble_eq_true rfl)) dX2_purseIn_2 (fun u h => ?_)
  refine lv_iload_n hx hb dX2_purseIn_5 rfl (lv_at hl 2 rfl) ?_
  refine lv_iconst (v := 1) hx hb dX2_purseIn_6 (by decide) ?_
  refine lv_bipush (v := 60) hx hb dX2_purseIn_7 (by decide) ?_
  refine z_RS (As := [.int p1, .int 1, .int 60]) (rest := []) [] C (hG.kept hS.1 hS.2.1).none hP (c_X2_requireWithin hfl hs0 D cI cB cJ p1 1 60 h) q205 v_X2_requireWithin rfl rfl ⟨(Nat.le_of_ble_eq_true rfl), (Nat.le_of_ble_eq_true rfl)⟩ ⟨(Nat.le_of_ble_eq_true rfl), (Nat.le_of_ble_eq_true rfl)⟩ hl.1 rfl (lv_room (Nat.le_of_ble_eq_true rfl)) dX2_purseIn_9 (fun u h => ?_)
  refine lv_aload_n hx hb dX2_purseIn_12 rfl (lv_at hl 0 rfl) ?_
  refine lv_iload_n hx hb dX2_purseIn_13 rfl (lv_at hl 1 rfl) ?_
  refine lv_iconst (v := (-1)) hx hb dX2_purseIn_14 (by decide) ?_
  refine lv_iload_n hx hb dX2_purseIn_15 rfl (lv_at hl 2 rfl) ?_
  refine z_WV (As := [.int p0, .int (-1), .int p1]) (rest := []) (wr := ([] : va_W)) (wN := (fun u : Int32 × DS => wD cI dA bA aA tA u.2)) [0, 1, 2, 3, 4, 5, 6, 7, 8, 9, 10, 11, 12, 13, 14, 15, 16, 17, 18, 19, 20, 21] [] [0, 1, 2, 3, 4, 5, 6, 7, 8, 9, 10, 11, 12, 13, 14, 15, 16, 17, 18, 19, 20, 21] C hG hA hP hD hS (c_X2_coinsAhead hfl hs0 D cI cB cJ dA bA aA tA d p0 (-1) p1 h) q264 v_X2_coinsAhead rfl rfl ⟨by decide, by decide, by decide⟩ (by decide) (fun _ => rfl) rfl rfl rfl ⟨(Nat.le_of_ble_eq_true rfl), (Nat.le_of_ble_eq_true rfl)⟩ ⟨(Nat.le_of_ble_eq_true rfl), (Nat.le_of_ble_eq_true rfl)⟩ hl.1 rfl (lv_room (Nat.le_of_ble_eq_true rfl)) dX2_purseIn_16 (fun u H locs h hP hD hS => ?_)
  obtain ⟨r16, d16⟩ := u
  have hP : va_P D vwCl (wD cI dA bA aA tA d16) H := hP
  have hD : va_D A (wD cI dA bA aA tA d16) := hD
  exact zW_iret C (r16, d16) rfl h hP hD hS (Nat.le_of_ble_eq_true rfl) (Nat.le_of_ble_eq_true rfl) dX2_purseIn_19
set_option maxHeartbeats 4000000 in
set_option maxRecDepth 100000 in
theorem x_X2_purseIn {l : Launch} (hfl : l.stackTraces = false) {s0 : State} (hs0 : zS s0) (D : va_G) (cI cB cJ : ClassId) (dA : Nat → Nat) (bA : Nat → Nat) (aA : Nat → Nat) (tA : Nat → Nat) (d : DS) (p0 : Int32) (p1 : Int32) {post : Int32 → DS → Prop} {px : String → Prop} (h : wpX2_purseIn post px d p0 p1) : zX s0 l D (zty cI cB cJ) yX2_purseIn cX2_purseIn 3 (some .int) 7 2 12 [.ref (dA 0), .int p0, .int p1] (wD cI dA bA aA tA d) (fun u : Int32 × DS => some (Value.int u.1)) (fun u : Int32 × DS => post u.1 u.2) (fun u : Int32 × DS => wD cI dA bA aA tA u.2) px := by
  refine zX_intro (by decide +kernel) (Nat.le_of_ble_eq_true rfl) ?_
  intro p e s m below meth c A C hnt hA hG hP hD hS ls hl
  have C : zC D (zty cI cB cJ) p s m ([.ref (dA 0), .int p0, .int p1] : List Value).toArray meth c cX2_purseIn RX2 (some .int) 3 := C
  have hx := C.1
  have hb := C.2.1
  have hts := C.2.2.1
  have hown := C.2.2.2.1
  have hml := C.2.2.2.2.2.1
  have hK := C.2.2.2.2.2.2.2
  have hl : lv_has ls 3 [(0, .ref (dA 0)), (1, .int p0), (2, .int p1)] := hl
  have hP : va_P D vwCl (wD cI dA bA aA tA d) s.heap := hP
  have hD : va_D A (wD cI dA bA aA tA d) := hD
  unfold wpX2_purseIn at h
  refine lv_aload_n hx hb dX2_purseIn_0 rfl (lv_at hl 0 rfl) ?_
  refine lv_iload_n hx hb dX2_purseIn_1 rfl (lv_at hl 1 rfl) ?_
  refine z_XV (As := [.int p0]) (rest := []) (wr := ([] : va_W)) (wN := (fun _ : Unit => wD cI dA bA aA tA d)) [0, 1, 2, 3, 4, 5, 6, 7, 8, 9, 10, 11, 12, 13, 14, 15, 16, 17, 18, 19, 20, 21] [] [0, 1, 2, 3, 4, 5, 6, 7, 8, 9, 10, 11, 12, 13, 14, 15, 16, 17, 18, 19, 20, 21] [0, 1, 2, 3, 4, 5, 6, 7, 8, 9, 10, 11, 12, 13, 14, 15, 16, 17, 18, 19, 20, 21] C hG hA hP hD hS (x_X2_requireParty hfl hs0 D cI cB cJ dA bA aA tA d p0 h) q229 v_X2_requireParty rfl rfl ⟨by decide, by decide, by decide⟩ (by decide) (fun _ => rfl) rfl rfl rfl rfl ⟨(Nat.le_of_ble_eq_true rfl), (Nat.le_of_ble_eq_true rfl)⟩ ⟨(Nat.le_of_ble_eq_true rfl), (Nat.le_of_ble_eq_true rfl)⟩ hl.1 rfl (lv_room (Nat.le_of_ble_eq_true rfl)) dX2_purseIn_2 (fun E ce q9 H locs hE hP hS hce hcv hcl => zX_out C hnt hE hP hS hce hcv hcl (Nat.le_of_ble_eq_true rfl) (Nat.le_of_ble_eq_true rfl)) (fun _ H locs h hP hD hS => ?_)
  have hP : va_P D vwCl (wD cI dA bA aA tA d) H := hP
  have hD : va_D A (wD cI dA bA aA tA d) := hD
  refine lv_iload_n hx hb dX2_purseIn_5 rfl (lv_at hl 2 rfl) ?_
  refine lv_iconst (v := 1) hx hb dX2_purseIn_6 (by decide) ?_
  refine lv_bipush (v := 60) hx hb dX2_purseIn_7 (by decide) ?_
  refine z_XS (As := [.int p1, .int 1, .int 60]) (rest := []) (wr := (List.filterMap (fun i => (wD cI dA bA aA tA d)[i]?) [0, 1, 2, 3, 4, 5, 6, 7, 8, 9, 10, 11, 12, 13, 14, 15, 16, 17, 18, 19, 20, 21])) (wN := (fun _ : Unit => wD cI dA bA aA tA d)) [] [0, 1, 2, 3, 4, 5, 6, 7, 8, 9, 10, 11, 12, 13, 14, 15, 16, 17, 18, 19, 20, 21] [0, 1, 2, 3, 4, 5, 6, 7, 8, 9, 10, 11, 12, 13, 14, 15, 16, 17, 18, 19, 20, 21] [0, 1, 2, 3, 4, 5, 6, 7, 8, 9, 10, 11, 12, 13, 14, 15, 16, 17, 18, 19, 20, 21] C hG hA hP hD hS (x_X2_requireWithin hfl hs0 D cI cB cJ p1 1 60 h) q205 v_X2_requireWithin rfl rfl ⟨by decide, by decide, by decide⟩ (by decide) (fun _ => rfl) rfl rfl ⟨(Nat.le_of_ble_eq_true rfl), (Nat.le_of_ble_eq_true rfl)⟩ ⟨(Nat.le_of_ble_eq_true rfl), (Nat.le_of_ble_eq_true rfl)⟩ hl.1 rfl (lv_room (Nat.le_of_ble_eq_true rfl)) dX2_purseIn_9 (fun E ce q9 H locs hE hP hS hce hcv hcl => zX_out C hnt hE hP hS hce hcv hcl (Nat.le_of_ble_eq_true rfl) (Nat.le_of_ble_eq_true rfl)) (fun _ H locs h hP hD hS => ?_)
  have hP : va_P D vwCl (wD cI dA bA aA tA d) H := hP
  have hD : va_D A (wD cI dA bA aA tA d) := hD
  refine lv_aload_n hx hb dX2_purseIn_12 rfl (lv_at hl 0 rfl) ?_
  refine lv_iload_n hx hb dX2_purseIn_13 rfl (lv_at hl 1 rfl) ?_
  refine lv_iconst (v := (-1)) hx hb dX2_purseIn_14 (by decide) ?_
  refine lv_iload_n hx hb dX2_purseIn_15 rfl (lv_at hl 2 rfl) ?_
  refine z_WV (As := [.int p0, .int (-1), .int p1]) (rest := []) (wr := ([] : va_W)) (wN := (fun u : Int32 × DS => wD cI dA bA aA tA u.2)) [0, 1, 2, 3, 4, 5, 6, 7, 8, 9, 10, 11, 12, 13, 14, 15, 16, 17, 18, 19, 20, 21] [] [0, 1, 2, 3, 4, 5, 6, 7, 8, 9, 10, 11, 12, 13, 14, 15, 16, 17, 18, 19, 20, 21] C hG hA hP hD hS (c_X2_coinsAhead hfl hs0 D cI cB cJ dA bA aA tA d p0 (-1) p1 h) q264 v_X2_coinsAhead rfl rfl ⟨by decide, by decide, by decide⟩ (by decide) (fun _ => rfl) rfl rfl rfl ⟨(Nat.le_of_ble_eq_true rfl), (Nat.le_of_ble_eq_true rfl)⟩ ⟨(Nat.le_of_ble_eq_true rfl), (Nat.le_of_ble_eq_true rfl)⟩ hl.1 rfl (lv_room (Nat.le_of_ble_eq_true rfl)) dX2_purseIn_16 (fun u H locs h hP hD hS => ?_)
  obtain ⟨r16, d16⟩ := u
  have hP : va_P D vwCl (wD cI dA bA aA tA d16) H := hP
  have hD : va_D A (wD cI dA bA aA tA d16) := hD
  exact vx_ret (zW_iret C (r16, d16) rfl h hP hD hS (Nat.le_of_ble_eq_true rfl) (Nat.le_of_ble_eq_true rfl) dX2_purseIn_19)
def wpX2_bestToPay_b80 (post : Int32 → DS → Prop) (px : String → Prop) (p0 : Int32) (K19 : Int32 → Int32 → Int32 → DS → Prop) (x2 : Int32) (x3 : Int32) (x4 : Int32) (d_ : DS) : Prop := K19 x2 x3 (x4 + 1) d_
def wpX2_bestToPay_b19 (post : Int32 → DS → Prop) (px : String → Prop) (p0 : Int32) : Nat → Int32 → Int32 → Int32 → DS → Prop
  | 0, _, _, _, _ => False
  | n + 1, x2, x3, x4, d_ => (d_.2.2.1.2.2.2.2.2.2.2.2.2.2 ≤ x4 → post x2 d_) ∧ (¬ d_.2.2.1.2.2.2.2.2.2.2.2.2.2 ≤ x4 → vp_in x4 20 ∧ (((d_.2.2.1.1 x4.toNatClampNeg) = p0 → wpX0_canBePaid (fun r51 => (r51 = 0 → wpX2_bestToPay_b80 post px p0 (fun z0 z1 z2 z3 => wpX2_bestToPay_b19 post px p0 n z0 z1 z2 z3) x2 x3 x4 d_) ∧ (¬ r51 = 0 → wpX2_coinsAhead (fun r63 d63 => (r63 ≤ x3 → wpX2_bestToPay_b80 post px p0 (fun z0 z1 z2 z3 => wpX2_bestToPay_b19 post px p0 n z0 z1 z2 z3) x2 x3 x4 d63) ∧ (¬ r63 ≤ x3 → wpX2_bestToPay_b80 post px p0 (fun z0 z1 z2 z3 => wpX2_bestToPay_b19 post px p0 n z0 z1 z2 z3) x4 r63 x4 d63)) d_ p0 x4 60)) d_.2.2.1 d_.1 x4) ∧ (¬ (d_.2.2.1.1 x4.toNatClampNeg) = p0 → wpX2_bestToPay_b80 post px p0 (fun z0 z1 z2 z3 => wpX2_bestToPay_b19 post px p0 n z0 z1 z2 z3) x2 x3 x4 d_)))
def wpX2_bestToPay (post : Int32 → DS → Prop) (px : String → Prop) (d : DS) (p0 : Int32) : Prop := wpX2_requireParty (wpX2_coinsAhead (fun r12 d12 => ∃ n19 : Nat, wpX2_bestToPay_b19 post px p0 n19 (-1) r12 0 d12) d p0 (-1) 60) px d p0
set_option maxHeartbeats 4000000 in
set_option maxRecDepth 100000 in
theorem c_X2_bestToPay {l : Launch} (hfl : l.stackTraces = false) {s0 : State} (hs0 : zS s0) (D : va_G) (cI cB cJ : ClassId) (dA : Nat → Nat) (bA : Nat → Nat) (aA : Nat → Nat) (tA : Nat → Nat) (d : DS) (p0 : Int32) {post : Int32 → DS → Prop} (h : wpX2_bestToPay post (fun _ => False) d p0) : zW s0 l D (zty cI cB cJ) yX2_bestToPay cX2_bestToPay 6 (some .int) 6 0 0 [.ref (dA 0), .int p0] (wD cI dA bA aA tA d) (fun u : Int32 × DS => some (Value.int u.1)) (fun u : Int32 × DS => post u.1 u.2) (fun u : Int32 × DS => wD cI dA bA aA tA u.2) := by
  refine zW_intro (by decide +kernel) (Nat.le_of_ble_eq_true rfl) ?_
  intro p e s m below meth c A C hnm hA hG hP hD hS ls hl
  have C : zC D (zty cI cB cJ) p s m ([.ref (dA 0), .int p0] : List Value).toArray meth c cX2_bestToPay RX2 (some .int) 6 := C
  have hx := C.1
  have hb := C.2.1
  have hts := C.2.2.1
  have hown := C.2.2.2.1
  have hml := C.2.2.2.2.2.1
  have hK := C.2.2.2.2.2.2.2
  have hl : lv_has ls 6 [(0, .ref (dA 0)), (1, .int p0)] := hl
  have hP : va_P D vwCl (wD cI dA bA aA tA d) s.heap := hP
  have hD : va_D A (wD cI dA bA aA tA d) := hD
  have k80 : ∀ (K19 : Int32 → Int32 → Int32 → DS → Prop) (hK19 : ∀ (x2 : Int32) (x3 : Int32) (x4 : Int32) (d_ : DS) (H : Heap) (locs : List Loc), va_P D vwCl (wD cI dA bA aA tA d_) H → va_D A (wD cI dA bA aA tA d_) → va_S A s.heap H locs → ∀ (ls : Array Slot), lv_has ls 6 [(0, .ref (dA 0)), (1, .int p0), (2, .int x2), (3, .int x3), (4, .int x4)] → K19 x2 x3 x4 d_ → W p l e (zr 6 0 0) s m ([.ref (dA 0), .int p0] : List Value).toArray below meth c H locs 0 0 (MQ below (zQ D (fun u : Int32 × DS => some (Value.int u.1)) (fun u : Int32 × DS => post u.1 u.2) (fun u : Int32 × DS => wD cI dA bA aA tA u.2) A) ([.ref (dA 0), .int p0] : List Value).toArray s 0 0 A) (F0 m 19 ls [])), ∀ (x2 : Int32) (x3 : Int32) (x4 : Int32) (d_ : DS) (H : Heap) (locs : List Loc), va_P D vwCl (wD cI dA bA aA tA d_) H → va_D A (wD cI dA bA aA tA d_) → va_S A s.heap H locs → ∀ (ls : Array Slot), lv_has ls 6 [(0, .ref (dA 0)), (1, .int p0), (2, .int x2), (3, .int x3), (4, .int x4)] → wpX2_bestToPay_b80 post (fun _ : String => False) p0 K19 x2 x3 x4 d_ → W p l e (zr 6 0 0) s m ([.ref (dA 0), .int p0] : List Value).toArray below meth c H locs 0 0 (MQ below (zQ D (fun u : Int32 × DS => some (Value.int u.1)) (fun u : Int32 × DS => post u.1 u.2) (fun u : Int32 × DS => wD cI dA bA aA tA u.2) A) ([.ref (dA 0), .int p0] : List Value).toArray s 0 0 A) (F0 m 80 ls []) := by
    intro K19 hK19
    intro x2 x3 x4 d_ H locs hP hD hS ls hl h
    unfold wpX2_bestToPay_b80 at h
    refine lv_iinc (v := (x4 + 1)) (lv' := [(4, .int (x4 + 1)), (0, .ref (dA 0)), (1, .int p0), (2, .int x2), (3, .int x3)]) hx hb dX2_bestToPay_80 hl (k := 4) rfl (by first | rfl | decide) (by decide) rfl (fun ls hl => ?_)
    refine lv_goto (tgt := 19) hx hb dX2_bestToPay_83 (by decide) ?_
    refine W.widen (k := 0) (n := 0) (Nat.le_of_ble_eq_true rfl) (Nat.le_of_ble_eq_true rfl) ?_
    exact hK19 x2 x3 (x4 + 1) d_  _ _ hP hD hS _ (lv_sub hl [1, 2, 3, 4, 0] rfl) h
  have k19 : ∀ (n : Nat) (x2 : Int32) (x3 : Int32) (x4 : Int32) (d_ : DS) (H : Heap) (locs : List Loc), va_P D vwCl (wD cI dA bA aA tA d_) H → va_D A (wD cI dA bA aA tA d_) → va_S A s.heap H locs → ∀ (ls : Array Slot), lv_has ls 6 [(0, .ref (dA 0)), (1, .int p0), (2, .int x2), (3, .int x3), (4, .int x4)] → wpX2_bestToPay_b19 post (fun _ : String => False) p0 n x2 x3 x4 d_ → W p l e (zr 6 0 0) s m ([.ref (dA 0), .int p0] : List Value).toArray below meth c H locs 0 0 (MQ below (zQ D (fun u : Int32 × DS => some (Value.int u.1)) (fun u : Int32 × DS => post u.1 u.2) (fun u : Int32 × DS => wD cI dA bA aA tA u.2) A) ([.ref (dA 0), .int p0] : List Value).toArray s 0 0 A) (F0 m 19 ls []) := by
    intro n
    induction n with
    | zero =>
      intro x2 x3 x4 d_ H locs hP hD hS ls hl h
      exact h.elim
    | succ n ih =>
      intro x2 x3 x4 d_ H locs hP hD hS ls hl h
      rw [wpX2_bestToPay_b19] at h
      refine lv_iload hx hb dX2_bestToPay_19 (lv_at hl 4 rfl) ?_
      refine lv_aload_n hx hb dX2_bestToPay_21 rfl (lv_at hl 0 rfl) ?_
      refine z_get C f_X2_10 hP (q0 := 0) rfl rfl dX2_bestToPay_22 ?_
      refine z_get C f_X2_59 hP (q0 := 11) rfl rfl dX2_bestToPay_25 ?_
      refine lv_icmp_ge (tgt := 86) hx hb dX2_bestToPay_28 (by decide) (fun c28 => ?_) (fun c28 => ?_)
      · have h := h.1 c28
        refine lv_iload_n hx hb dX2_bestToPay_86 rfl (lv_at hl 2 rfl) ?_
        exact zW_iret C (x2, d_) rfl h hP hD hS (Nat.le_of_ble_eq_true rfl) (Nat.le_of_ble_eq_true rfl) dX2_bestToPay_87
      · have h := h.2 c28
        refine lv_aload_n hx hb dX2_bestToPay_31 rfl (lv_at hl 0 rfl) ?_
        refine z_get C f_X2_10 hP (q0 := 0) rfl rfl dX2_bestToPay_32 ?_
        refine z_get C f_X2_134 hP (q0 := 11) rfl rfl dX2_bestToPay_35 ?_
        refine lv_iload hx hb dX2_bestToPay_38 (lv_at hl 4 rfl) ?_
        obtain ⟨g9, h⟩ := h
        refine va_iald hx hb hK hP 12 0 rfl rfl g9 dX2_bestToPay_40 ?_
        refine lv_iload_n hx hb dX2_bestToPay_41 rfl (lv_at hl 1 rfl) ?_
        refine lv_icmp_ne (tgt := 80) hx hb dX2_bestToPay_42 (by decide) (fun c42 => ?_) (fun c42 => ?_)
        · have h := h.2 c42
          refine W.widen (k := 0) (n := 0) (Nat.le_of_ble_eq_true rfl) (Nat.le_of_ble_eq_true rfl) ?_
          exact k80 _ ih x2 x3 x4 d_  _ _ hP hD hS _ (lv_sub hl [0, 1, 2, 3, 4] rfl) h
        · have h := h.1 c42
          refine lv_aload_n hx hb dX2_bestToPay_45 rfl (lv_at hl 0 rfl) ?_
          refine z_get C f_X2_21 hP (q0 := 0) rfl rfl dX2_bestToPay_46 ?_
          refine lv_iload hx hb dX2_bestToPay_49 (lv_at hl 4 rfl) ?_
          refine z_RV (As := [.int x4]) (rest := []) [1, 2, 3, 4, 5, 11, 12, 13, 14, 15, 16, 17, 18, 19, 20, 21] C (hG.kept hS.1 hS.2.1).none hP (c_X0_canBePaid hfl hs0 D cI cB cJ bA tA d_.2.2.1 d_.1 x4 h) q215 v_X0_canBePaid rfl rfl rfl rfl ⟨(Nat.le_of_ble_eq_true rfl), (Nat.le_of_ble_eq_true rfl)⟩ ⟨(Nat.le_of_ble_eq_true rfl), (Nat.le_of_ble_eq_true rfl)⟩ hl.1 rfl (lv_room (Nat.le_of_ble_eq_true rfl)) dX2_bestToPay_51 (fun r51 h => ?_)
          refine lv_if_eq (tgt := 80) hx hb dX2_bestToPay_54 (by decide) (fun c54 => ?_) (fun c54 => ?_)
          · have h := h.1 c54
            refine W.widen (k := 0) (n := 0) (Nat.le_of_ble_eq_true rfl) (Nat.le_of_ble_eq_true rfl) ?_
            exact k80 _ ih x2 x3 x4 d_  _ _ hP hD hS _ (lv_sub hl [0, 1, 2, 3, 4] rfl) h
          · have h := h.2 c54
            refine lv_aload_n hx hb dX2_bestToPay_57 rfl (lv_at hl 0 rfl) ?_
            refine lv_iload_n hx hb dX2_bestToPay_58 rfl (lv_at hl 1 rfl) ?_
            refine lv_iload hx hb dX2_bestToPay_59 (lv_at hl 4 rfl) ?_
            refine lv_bipush (v := 60) hx hb dX2_bestToPay_61 (by decide) ?_
            refine z_WV (As := [.int p0, .int x4, .int 60]) (rest := []) (wr := ([] : va_W)) (wN := (fun u : Int32 × DS => wD cI dA bA aA tA u.2)) [0, 1, 2, 3, 4, 5, 6, 7, 8, 9, 10, 11, 12, 13, 14, 15, 16, 17, 18, 19, 20, 21] [] [0, 1, 2, 3, 4, 5, 6, 7, 8, 9, 10, 11, 12, 13, 14, 15, 16, 17, 18, 19, 20, 21] C hG hA hP hD hS (c_X2_coinsAhead hfl hs0 D cI cB cJ dA bA aA tA d_ p0 x4 60 h) q264 v_X2_coinsAhead rfl rfl ⟨by decide, by decide, by decide⟩ (by decide) (fun _ => rfl) rfl rfl rfl ⟨(Nat.le_of_ble_eq_true rfl), (Nat.le_of_ble_eq_true rfl)⟩ ⟨(Nat.le_of_ble_eq_true rfl), (Nat.le_of_ble_eq_true rfl)⟩ hl.1 rfl (lv_room (Nat.le_of_ble_eq_true rfl)) dX2_bestToPay_63 (fun u H locs h hP hD hS => ?_)
            obtain ⟨r63, d63⟩ := u
            have hP : va_P D vwCl (wD cI dA bA aA tA d63) H := hP
            have hD : va_D A (wD cI dA bA aA tA d63) := hD
            refine lv_istore (lv' := [(5, .int r63), (0, .ref (dA 0)), (1, .int p0), (2, .int x2), (3, .int x3), (4, .int x4)]) hx hb dX2_bestToPay_66 hl (by decide) rfl (fun ls hl => ?_)
            refine lv_iload hx hb dX2_bestToPay_68 (lv_at hl 0 rfl) ?_
            refine lv_iload_n hx hb dX2_bestToPay_70 rfl (lv_at hl 4 rfl) ?_
            refine lv_icmp_le (tgt := 80) hx hb dX2_bestToPay_71 (by decide) (fun c71 => ?_) (fun c71 => ?_)
            · have h := h.1 c71
              refine W.widen (k := 0) (n := 0) (Nat.le_of_ble_eq_true rfl) (Nat.le_of_ble_eq_true rfl) ?_
              exact k80 _ ih x2 x3 x4 d63  _ _ hP hD hS _ (lv_sub hl [1, 2, 3, 4, 5] rfl) h
            · have h := h.2 c71
              refine lv_iload hx hb dX2_bestToPay_74 (lv_at hl 0 rfl) ?_
              refine lv_istore_n (lv' := [(3, .int r63), (5, .int r63), (0, .ref (dA 0)), (1, .int p0), (2, .int x2), (4, .int x4)]) hx hb dX2_bestToPay_76 rfl hl (by decide) rfl (fun ls hl => ?_)
              refine lv_iload hx hb dX2_bestToPay_77 (lv_at hl 5 rfl) ?_
              refine lv_istore_n (lv' := [(2, .int x4), (3, .int r63), (5, .int r63), (0, .ref (dA 0)), (1, .int p0), (4, .int x4)]) hx hb dX2_bestToPay_79 rfl hl (by decide) rfl (fun ls hl => ?_)
              refine W.widen (k := 0) (n := 0) (Nat.le_of_ble_eq_true rfl) (Nat.le_of_ble_eq_true rfl) ?_
              exact k80 _ ih x4 r63 x4 d63  _ _ hP hD hS _ (lv_sub hl [3, 4, 0, 1, 5] rfl) h
  unfold wpX2_bestToPay at h
  refine lv_aload_n hx hb dX2_bestToPay_0 rfl (lv_at hl 0 rfl) ?_
  refine lv_iload_n hx hb dX2_bestToPay_1 rfl (lv_at hl 1 rfl) ?_
  refine z_RV (As := [.int p0]) (rest := []) [0, 1, 2, 3, 4, 5, 6, 7, 8, 9, 10, 11, 12, 13, 14, 15, 16, 17, 18, 19, 20, 21] C (hG.kept hS.1 hS.2.1).none hP (c_X2_requireParty hfl hs0 D cI cB cJ dA bA aA tA d p0 h) q229 v_X2_requireParty rfl rfl rfl rfl ⟨(Nat.le_of_ble_eq_true rfl), (Nat.le_of_ble_eq_true rfl)⟩ ⟨(Nat.le_of_ble_eq_true rfl), (Nat.le_of_ble_eq_true rfl)⟩ hl.1 rfl (lv_room (Nat.le_of_ble_eq_true rfl)) dX2_bestToPay_2 (fun u h => ?_)
  refine lv_iconst (v := (-1)) hx hb dX2_bestToPay_5 (by decide) ?_
  refine lv_istore_n (lv' := [(2, .int (-1)), (0, .ref (dA 0)), (1, .int p0)]) hx hb dX2_bestToPay_6 rfl hl (by decide) rfl (fun ls hl => ?_)
  refine lv_aload_n hx hb dX2_bestToPay_7 rfl (lv_at hl 1 rfl) ?_
  refine lv_iload_n hx hb dX2_bestToPay_8 rfl (lv_at hl 2 rfl) ?_
  refine lv_iconst (v := (-1)) hx hb dX2_bestToPay_9 (by decide) ?_
  refine lv_bipush (v := 60) hx hb dX2_bestToPay_10 (by decide) ?_
  refine z_WV (As := [.int p0, .int (-1), .int 60]) (rest := []) (wr := ([] : va_W)) (wN := (fun u : Int32 × DS => wD cI dA bA aA tA u.2)) [0, 1, 2, 3, 4, 5, 6, 7, 8, 9, 10, 11, 12, 13, 14, 15, 16, 17, 18, 19, 20, 21] [] [0, 1, 2, 3, 4, 5, 6, 7, 8, 9, 10, 11, 12, 13, 14, 15, 16, 17, 18, 19, 20, 21] C hG hA hP hD hS (c_X2_coinsAhead hfl hs0 D cI cB cJ dA bA aA tA d p0 (-1) 60 h) q264 v_X2_coinsAhead rfl rfl ⟨by decide, by decide, by decide⟩ (by decide) (fun _ => rfl) rfl rfl rfl ⟨(Nat.le_of_ble_eq_true rfl), (Nat.le_of_ble_eq_true rfl)⟩ ⟨(Nat.le_of_ble_eq_true rfl), (Nat.le_of_ble_eq_true rfl)⟩ hl.1 rfl (lv_room (Nat.le_of_ble_eq_true rfl)) dX2_bestToPay_12 (fun u H locs h hP hD hS => ?_)
  obtain ⟨r12, d12⟩ := u
  have hP : va_P D vwCl (wD cI dA bA aA tA d12) H := hP
  have hD : va_D A (wD cI dA bA aA tA d12) := hD
  refine lv_istore_n (lv' := [(3, .int r12), (2, .int (-1)), (0, .ref (dA 0)), (1, .int p0)]) hx hb dX2_bestToPay_15 rfl hl (by decide) rfl (fun ls hl => ?_)
  refine lv_iconst (v := 0) hx hb dX2_bestToPay_16 (by decide) ?_
  refine lv_istore (lv' := [(4, .int 0), (3, .int r12), (2, .int (-1)), (0, .ref (dA 0)), (1, .int p0)]) hx hb dX2_bestToPay_17 hl (by decide) rfl (fun ls hl => ?_)
  refine W.widen (k := 0) (n := 0) (Nat.le_of_ble_eq_true rfl) (Nat.le_of_ble_eq_true rfl) ?_
  obtain ⟨n9, h⟩ := h
  exact k19 n9 (-1) r12 0 d12  _ _ hP hD hS _ (lv_sub hl [3, 4, 2, 1, 0] rfl) h
set_option maxHeartbeats 4000000 in
set_option maxRecDepth 100000 in
theorem x_X2_bestToPay {l : Launch} (hfl : l.stackTraces = false) {s0 : State} (hs0 : zS s0) (D : va_G) (cI cB cJ : ClassId) (dA : Nat → Nat) (bA : Nat → Nat) (aA : Nat → Nat) (tA : Nat → Nat) (d : DS) (p0 : Int32) {post : Int32 → DS → Prop} {px : String → Prop} (h : wpX2_bestToPay post px d p0) : zX s0 l D (zty cI cB cJ) yX2_bestToPay cX2_bestToPay 6 (some .int) 7 1 6 [.ref (dA 0), .int p0] (wD cI dA bA aA tA d) (fun u : Int32 × DS => some (Value.int u.1)) (fun u : Int32 × DS => post u.1 u.2) (fun u : Int32 × DS => wD cI dA bA aA tA u.2) px := by
  refine zX_intro (by decide +kernel) (Nat.le_of_ble_eq_true rfl) ?_
  intro p e s m below meth c A C hnt hA hG hP hD hS ls hl
  have C : zC D (zty cI cB cJ) p s m ([.ref (dA 0), .int p0] : List Value).toArray meth c cX2_bestToPay RX2 (some .int) 6 := C
  have hx := C.1
  have hb := C.2.1
  have hts := C.2.2.1
  have hown := C.2.2.2.1
  have hml := C.2.2.2.2.2.1
  have hK := C.2.2.2.2.2.2.2
  have hl : lv_has ls 6 [(0, .ref (dA 0)), (1, .int p0)] := hl
  have hP : va_P D vwCl (wD cI dA bA aA tA d) s.heap := hP
  have hD : va_D A (wD cI dA bA aA tA d) := hD
  have k80 : ∀ (K19 : Int32 → Int32 → Int32 → DS → Prop) (hK19 : ∀ (x2 : Int32) (x3 : Int32) (x4 : Int32) (d_ : DS) (H : Heap) (locs : List Loc), va_P D vwCl (wD cI dA bA aA tA d_) H → va_D A (wD cI dA bA aA tA d_) → va_S A s.heap H locs → ∀ (ls : Array Slot), lv_has ls 6 [(0, .ref (dA 0)), (1, .int p0), (2, .int x2), (3, .int x3), (4, .int x4)] → K19 x2 x3 x4 d_ → W p l e (zr 7 1 6) s m ([.ref (dA 0), .int p0] : List Value).toArray below meth c H locs 1 6 (vx_MQ below (zQ D (fun u : Int32 × DS => some (Value.int u.1)) (fun u : Int32 × DS => post u.1 u.2) (fun u : Int32 × DS => wD cI dA bA aA tA u.2) A) (zXC D px (wD cI dA bA aA tA d) A) ([.ref (dA 0), .int p0] : List Value).toArray s 1 6 A) (F0 m 19 ls [])), ∀ (x2 : Int32) (x3 : Int32) (x4 : Int32) (d_ : DS) (H : Heap) (locs : List Loc), va_P D vwCl (wD cI dA bA aA tA d_) H → va_D A (wD cI dA bA aA tA d_) → va_S A s.heap H locs → ∀ (ls : Array Slot), lv_has ls 6 [(0, .ref (dA 0)), (1, .int p0), (2, .int x2), (3, .int x3), (4, .int x4)] → wpX2_bestToPay_b80 post px p0 K19 x2 x3 x4 d_ → W p l e (zr 7 1 6) s m ([.ref (dA 0), .int p0] : List Value).toArray below meth c H locs 1 6 (vx_MQ below (zQ D (fun u : Int32 × DS => some (Value.int u.1)) (fun u : Int32 × DS => post u.1 u.2) (fun u : Int32 × DS => wD cI dA bA aA tA u.2) A) (zXC D px (wD cI dA bA aA tA d) A) ([.ref (dA 0), .int p0] : List Value).toArray s 1 6 A) (F0 m 80 ls []) := by
    intro K19 hK19
    intro x2 x3 x4 d_ H locs hP hD hS ls hl h
    unfold wpX2_bestToPay_b80 at h
    refine lv_iinc (v := (x4 + 1)) (lv' := [(4, .int (x4 + 1)), (0, .ref (dA 0)), (1, .int p0), (2, .int x2), (3, .int x3)]) hx hb dX2_bestToPay_80 hl (k := 4) rfl (by first | rfl | decide) (by decide) rfl (fun ls hl => ?_)
    refine lv_goto (tgt := 19) hx hb dX2_bestToPay_83 (by decide) ?_
    refine W.widen (k := 1) (n := 6) (Nat.le_of_ble_eq_true rfl) (Nat.le_of_ble_eq_true rfl) ?_
    exact hK19 x2 x3 (x4 + 1) d_  _ _ hP hD hS _ (lv_sub hl [1, 2, 3, 4, 0] rfl) h
  have k19 : ∀ (n : Nat) (x2 : Int32) (x3 : Int32) (x4 : Int32) (d_ : DS) (H : Heap) (locs : List Loc), va_P D vwCl (wD cI dA bA aA tA d_) H → va_D A (wD cI dA bA aA tA d_) → va_S A s.heap H locs → ∀ (ls : Array Slot), lv_has ls 6 [(0, .ref (dA 0)), (1, .int p0), (2, .int x2), (3, .int x3), (4, .int x4)] → wpX2_bestToPay_b19 post px p0 n x2 x3 x4 d_ → W p l e (zr 7 1 6) s m ([.ref (dA 0), .int p0] : List Value).toArray below meth c H locs 1 6 (vx_MQ below (zQ D (fun u : Int32 × DS => some (Value.int u.1)) (fun u : Int32 × DS => post u.1 u.2) (fun u : Int32 × DS => wD cI dA bA aA tA u.2) A) (zXC D px (wD cI dA bA aA tA d) A) ([.ref (dA 0), .int p0] : List Value).toArray s 1 6 A) (F0 m 19 ls []) := by
    intro n
    induction n with
    | zero =>
      intro x2 x3 x4 d_ H locs hP hD hS ls hl h
      exact h.elim
    | succ n ih =>
      intro x2 x3 x4 d_ H locs hP hD hS ls hl h
      rw [wpX2_bestToPay_b19] at h
      refine lv_iload hx hb dX2_bestToPay_19 (lv_at hl 4 rfl) ?_
      refine lv_aload_n hx hb dX2_bestToPay_21 rfl (lv_at hl 0 rfl) ?_
      refine z_get C f_X2_10 hP (q0 := 0) rfl rfl dX2_bestToPay_22 ?_
      refine z_get C f_X2_59 hP (q0 := 11) rfl rfl dX2_bestToPay_25 ?_
      refine lv_icmp_ge (tgt := 86) hx hb dX2_bestToPay_28 (by decide) (fun c28 => ?_) (fun c28 => ?_)
      · have h := h.1 c28
        refine lv_iload_n hx hb dX2_bestToPay_86 rfl (lv_at hl 2 rfl) ?_
        exact vx_ret (zW_iret C (x2, d_) rfl h hP hD hS (Nat.le_of_ble_eq_true rfl) (Nat.le_of_ble_eq_true rfl) dX2_bestToPay_87)
      · have h := h.2 c28
        refine lv_aload_n hx hb dX2_bestToPay_31 rfl (lv_at hl 0 rfl) ?_
        refine z_get C f_X2_10 hP (q0 := 0) rfl rfl dX2_bestToPay_32 ?_
        refine z_get C f_X2_134 hP (q0 := 11) rfl rfl dX2_bestToPay_35 ?_
        refine lv_iload hx hb dX2_bestToPay_38 (lv_at hl 4 rfl) ?_
        obtain ⟨g9, h⟩ := h
        refine va_iald hx hb hK hP 12 0 rfl rfl g9 dX2_bestToPay_40 ?_
        refine lv_iload_n hx hb dX2_bestToPay_41 rfl (lv_at hl 1 rfl) ?_
        refine lv_icmp_ne (tgt := 80) hx hb dX2_bestToPay_42 (by decide) (fun c42 => ?_) (fun c42 => ?_)
        · have h := h.2 c42
          refine W.widen (k := 1) (n := 6) (Nat.le_of_ble_eq_true rfl) (Nat.le_of_ble_eq_true rfl) ?_
          exact k80 _ ih x2 x3 x4 d_  _ _ hP hD hS _ (lv_sub hl [0, 1, 2, 3, 4] rfl) h
        · have h := h.1 c42
          refine lv_aload_n hx hb dX2_bestToPay_45 rfl (lv_at hl 0 rfl) ?_
          refine z_get C f_X2_21 hP (q0 := 0) rfl rfl dX2_bestToPay_46 ?_
          refine lv_iload hx hb dX2_bestToPay_49 (lv_at hl 4 rfl) ?_
          refine z_RV (As := [.int x4]) (rest := []) [1, 2, 3, 4, 5, 11, 12, 13, 14, 15, 16, 17, 18, 19, 20, 21] C (hG.kept hS.1 hS.2.1).none hP (c_X0_canBePaid hfl hs0 D cI cB cJ bA tA d_.2.2.1 d_.1 x4 h) q215 v_X0_canBePaid rfl rfl rfl rfl ⟨(Nat.le_of_ble_eq_true rfl), (Nat.le_of_ble_eq_true rfl)⟩ ⟨(Nat.le_of_ble_eq_true rfl), (Nat.le_of_ble_eq_true rfl)⟩ hl.1 rfl (lv_room (Nat.le_of_ble_eq_true rfl)) dX2_bestToPay_51 (fun r51 h => ?_)
          refine lv_if_eq (tgt := 80) hx hb dX2_bestToPay_54 (by decide) (fun c54 => ?_) (fun c54 => ?_)
          · have h := h.1 c54
            refine W.widen (k := 1) (n := 6) (Nat.le_of_ble_eq_true rfl) (Nat.le_of_ble_eq_true rfl) ?_
            exact k80 _ ih x2 x3 x4 d_  _ _ hP hD hS _ (lv_sub hl [0, 1, 2, 3, 4] rfl) h
          · have h := h.2 c54
            refine lv_aload_n hx hb dX2_bestToPay_57 rfl (lv_at hl 0 rfl) ?_
            refine lv_iload_n hx hb dX2_bestToPay_58 rfl (lv_at hl 1 rfl) ?_
            refine lv_iload hx hb dX2_bestToPay_59 (lv_at hl 4 rfl) ?_
            refine lv_bipush (v := 60) hx hb dX2_bestToPay_61 (by decide) ?_
            refine z_WV (As := [.int p0, .int x4, .int 60]) (rest := []) (wr := ([] : va_W)) (wN := (fun u : Int32 × DS => wD cI dA bA aA tA u.2)) [0, 1, 2, 3, 4, 5, 6, 7, 8, 9, 10, 11, 12, 13, 14, 15, 16, 17, 18, 19, 20, 21] [] [0, 1, 2, 3, 4, 5, 6, 7, 8, 9, 10, 11, 12, 13, 14, 15, 16, 17, 18, 19, 20, 21] C hG hA hP hD hS (c_X2_coinsAhead hfl hs0 D cI cB cJ dA bA aA tA d_ p0 x4 60 h) q264 v_X2_coinsAhead rfl rfl ⟨by decide, by decide, by decide⟩ (by decide) (fun _ => rfl) rfl rfl rfl ⟨(Nat.le_of_ble_eq_true rfl), (Nat.le_of_ble_eq_true rfl)⟩ ⟨(Nat.le_of_ble_eq_true rfl), (Nat.le_of_ble_eq_true rfl)⟩ hl.1 rfl (lv_room (Nat.le_of_ble_eq_true rfl)) dX2_bestToPay_63 (fun u H locs h hP hD hS => ?_)
            obtain ⟨r63, d63⟩ := u
            have hP : va_P D vwCl (wD cI dA bA aA tA d63) H := hP
            have hD : va_D A (wD cI dA bA aA tA d63) := hD
            refine lv_istore (lv' := [(5, .int r63), (0, .ref (dA 0)), (1, .int p0), (2, .int x2), (3, .int x3), (4, .int x4)]) hx hb dX2_bestToPay_66 hl (by decide) rfl (fun ls hl => ?_)
            refine lv_iload hx hb dX2_bestToPay_68 (lv_at hl 0 rfl) ?_
            refine lv_iload_n hx hb dX2_bestToPay_70 rfl (lv_at hl 4 rfl) ?_
            refine lv_icmp_le (tgt := 80) hx hb dX2_bestToPay_71 (by decide) (fun c71 => ?_) (fun c71 => ?_)
            · have h := h.1 c71
              refine W.widen (k := 1) (n := 6) (Nat.le_of_ble_eq_true rfl) (Nat.le_of_ble_eq_true rfl) ?_
              exact k80 _ ih x2 x3 x4 d63  _ _ hP hD hS _ (lv_sub hl [1, 2, 3, 4, 5] rfl) h
            · have h := h.2 c71
              refine lv_iload hx hb dX2_bestToPay_74 (lv_at hl 0 rfl) ?_
              refine lv_istore_n (lv' := [(3, .int r63), (5, .int r63), (0, .ref (dA 0)), (1, .int p0), (2, .int x2), (4, .int x4)]) hx hb dX2_bestToPay_76 rfl hl (by decide) rfl (fun ls hl => ?_)
              refine lv_iload hx hb dX2_bestToPay_77 (lv_at hl 5 rfl) ?_
              refine lv_istore_n (lv' := [(2, .int x4), (3, .int r63), (5, .int r63), (0, .ref (dA 0)), (1, .int p0), (4, .int x4)]) hx hb dX2_bestToPay_79 rfl hl (by decide) rfl (fun ls hl => ?_)
              refine W.widen (k := 1) (n := 6) (Nat.le_of_ble_eq_true rfl) (Nat.le_of_ble_eq_true rfl) ?_
              exact k80 _ ih x4 r63 x4 d63  _ _ hP hD hS _ (lv_sub hl [3, 4, 0, 1, 5] rfl) h
  unfold wpX2_bestToPay at h
  refine lv_aload_n hx hb dX2_bestToPay_0 rfl (lv_at hl 0 rfl) ?_
  refine lv_iload_n hx hb dX2_bestToPay_1 rfl (lv_at hl 1 rfl) ?_
  refine z_XV (As := [.int p0]) (rest := []) (wr := ([] : va_W)) (wN := (fun _ : Unit => wD cI dA bA aA tA d)) [0, 1, 2, 3, 4, 5, 6, 7, 8, 9, 10, 11, 12, 13, 14, 15, 16, 17, 18, 19, 20, 21] [] [0, 1, 2, 3, 4, 5, 6, 7, 8, 9, 10, 11, 12, 13, 14, 15, 16, 17, 18, 19, 20, 21] [0, 1, 2, 3, 4, 5, 6, 7, 8, 9, 10, 11, 12, 13, 14, 15, 16, 17, 18, 19, 20, 21] C hG hA hP hD hS (x_X2_requireParty hfl hs0 D cI cB cJ dA bA aA tA d p0 h) q229 v_X2_requireParty rfl rfl ⟨by decide, by decide, by decide⟩ (by decide) (fun _ => rfl) rfl rfl rfl rfl ⟨(Nat.le_of_ble_eq_true rfl), (Nat.le_of_ble_eq_true rfl)⟩ ⟨(Nat.le_of_ble_eq_true rfl), (Nat.le_of_ble_eq_true rfl)⟩ hl.1 rfl (lv_room (Nat.le_of_ble_eq_true rfl)) dX2_bestToPay_2 (fun E ce q9 H locs hE hP hS hce hcv hcl => zX_out C hnt hE hP hS hce hcv hcl (Nat.le_of_ble_eq_true rfl) (Nat.le_of_ble_eq_true rfl)) (fun _ H locs h hP hD hS => ?_)
  have hP : va_P D vwCl (wD cI dA bA aA tA d) H := hP
  have hD : va_D A (wD cI dA bA aA tA d) := hD
  refine lv_iconst (v := (-1)) hx hb dX2_bestToPay_5 (by decide) ?_
  refine lv_istore_n (lv' := [(2, .int (-1)), (0, .ref (dA 0)), (1, .int p0)]) hx hb dX2_bestToPay_6 rfl hl (by decide) rfl (fun ls hl => ?_)
  refine lv_aload_n hx hb dX2_bestToPay_7 rfl (lv_at hl 1 rfl) ?_
  refine lv_iload_n hx hb dX2_bestToPay_8 rfl (lv_at hl 2 rfl) ?_
  refine lv_iconst (v := (-1)) hx hb dX2_bestToPay_9 (by decide) ?_
  refine lv_bipush (v := 60) hx hb dX2_bestToPay_10 (by decide) ?_
  refine z_WV (As := [.int p0, .int (-1), .int 60]) (rest := []) (wr := ([] : va_W)) (wN := (fun u : Int32 × DS => wD cI dA bA aA tA u.2)) [0, 1, 2, 3, 4, 5, 6, 7, 8, 9, 10, 11, 12, 13, 14, 15, 16, 17, 18, 19, 20, 21] [] [0, 1, 2, 3, 4, 5, 6, 7, 8, 9, 10, 11, 12, 13, 14, 15, 16, 17, 18, 19, 20, 21] C hG hA hP hD hS (c_X2_coinsAhead hfl hs0 D cI cB cJ dA bA aA tA d p0 (-1) 60 h) q264 v_X2_coinsAhead rfl rfl ⟨by decide, by decide, by decide⟩ (by decide) (fun _ => rfl) rfl rfl rfl ⟨(Nat.le_of_ble_eq_true rfl), (Nat.le_of_ble_eq_true rfl)⟩ ⟨(Nat.le_of_ble_eq_true rfl), (Nat.le_of_ble_eq_true rfl)⟩ hl.1 rfl (lv_room (Nat.le_of_ble_eq_true rfl)) dX2_bestToPay_12 (fun u H locs h hP hD hS => ?_)
  obtain ⟨r12, d12⟩ := u
  have hP : va_P D vwCl (wD cI dA bA aA tA d12) H := hP
  have hD : va_D A (wD cI dA bA aA tA d12) := hD
  refine lv_istore_n (lv' := [(3, .int r12), (2, .int (-1)), (0, .ref (dA 0)), (1, .int p0)]) hx hb dX2_bestToPay_15 rfl hl (by decide) rfl (fun ls hl => ?_)
  refine lv_iconst (v := 0) hx hb dX2_bestToPay_16 (by decide) ?_
  refine lv_istore (lv' := [(4, .int 0), (3, .int r12), (2, .int (-1)), (0, .ref (dA 0)), (1, .int p0)]) hx hb dX2_bestToPay_17 hl (by decide) rfl (fun ls hl => ?_)
  refine W.widen (k := 1) (n := 6) (Nat.le_of_ble_eq_true rfl) (Nat.le_of_ble_eq_true rfl) ?_
  obtain ⟨n9, h⟩ := h
  exact k19 n9 (-1) r12 0 d12  _ _ hP hD hS _ (lv_sub hl [3, 4, 2, 1, 0] rfl) h
def wpX2_meanPurse_b13 (post : UInt64 → Prop) (d : DS) : Nat → Int32 → Int32 → Prop
  | 0, _, _ => False
  | n + 1, x1, x2 => (d.2.2.2.1 ≤ x2 → vf_n64 (FP.ddiv (FP.i2d x1) (FP.i2d d.2.2.2.1)) ∧ (post (FP.ddiv (FP.i2d x1) (FP.i2d d.2.2.2.1)))) ∧ (¬ d.2.2.2.1 ≤ x2 → vp_in x2 6 ∧ (wpX2_meanPurse_b13 post d n (x1 + (d.1.1 x2.toNatClampNeg)) (x2 + 1)))
def wpX2_meanPurse (post : UInt64 → Prop) (d : DS) : Prop := (d.2.2.2.1 = 0 → post 0) ∧ (¬ d.2.2.2.1 = 0 → ∃ n13 : Nat, wpX2_meanPurse_b13 post d n13 0 0)
set_option maxHeartbeats 4000000 in
set_option maxRecDepth 100000 in
theorem c_X2_meanPurse {l : Launch} (hfl : l.stackTraces = false) {s0 : State} (hs0 : zS s0) (D : va_G) (cI cB cJ : ClassId) (dA : Nat → Nat) (bA : Nat → Nat) (aA : Nat → Nat) (tA : Nat → Nat) (d : DS) {post : UInt64 → Prop} (h : wpX2_meanPurse post d) : zR s0 l D (zty cI cB cJ) yX2_meanPurse cX2_meanPurse 3 (some .double) 1 [.ref (dA 0)] (wD cI dA bA aA tA d) (fun u : UInt64 => some (Value.double u)) (fun u : UInt64 => post u) := by
  refine zR_intro (by decide +kernel) (Nat.le_of_ble_eq_true rfl) ?_
  intro p e s m below meth c C hP hG ls hl
  have C : zC D (zty cI cB cJ) p s m ([.ref (dA 0)] : List Value).toArray meth c cX2_meanPurse RX2 (some .double) 3 := C
  have hx := C.1
  have hb := C.2.1
  have hts := C.2.2.1
  have hown := C.2.2.2.1
  have hml := C.2.2.2.2.2.1
  have hK := C.2.2.2.2.2.2.2
  have hl : lv_has ls 3 [(0, .ref (dA 0))] := hl
  have k13 : ∀ (n : Nat) (x1 : Int32) (x2 : Int32) (ls : Array Slot), lv_has ls 3 [(0, .ref (dA 0)), (1, .int x1), (2, .int x2)] → wpX2_meanPurse_b13 post d n x1 x2 → W p l e (zr 1 0 0) s m ([.ref (dA 0)] : List Value).toArray below meth c s.heap [] 0 0 (MQ below (zQr (fun u : UInt64 => some (Value.double u)) (fun u : UInt64 => post u)) ([.ref (dA 0)] : List Value).toArray s 0 0 (fun _ => False)) (F0 m 13 ls []) := by
    intro n
    induction n with
    | zero =>
      intro x1 x2 ls hl h
      exact h.elim
    | succ n ih =>
      intro x1 x2 ls hl h
      rw [wpX2_meanPurse_b13] at h
      refine lv_iload_n hx hb dX2_meanPurse_13 rfl (lv_at hl 2 rfl) ?_
      refine lv_aload_n hx hb dX2_meanPurse_14 rfl (lv_at hl 0 rfl) ?_
      refine z_get C f_X2_32 hP (q0 := 0) rfl rfl dX2_meanPurse_15 ?_
      refine lv_icmp_ge (tgt := 39) hx hb dX2_meanPurse_18 (by decide) (fun c18 => ?_) (fun c18 => ?_)
      · have h := h.1 c18
        refine lv_iload_n hx hb dX2_meanPurse_39 rfl (lv_at hl 1 rfl) ?_
        refine lv_i2d hx hb dX2_meanPurse_40 ?_
        refine lv_aload_n hx hb dX2_meanPurse_41 rfl (lv_at hl 0 rfl) ?_
        refine z_get C f_X2_32 hP (q0 := 0) rfl rfl dX2_meanPurse_42 ?_
        refine lv_i2d hx hb dX2_meanPurse_45 ?_
        obtain ⟨g9, h⟩ := h
        refine lv_ddiv hx hb dX2_meanPurse_46 g9 ?_
        exact zR_dret C (FP.ddiv (FP.i2d x1) (FP.i2d d.2.2.2.1)) rfl h dX2_meanPurse_47
      · have h := h.2 c18
        refine lv_iload_n hx hb dX2_meanPurse_21 rfl (lv_at hl 1 rfl) ?_
        refine lv_aload_n hx hb dX2_meanPurse_22 rfl (lv_at hl 0 rfl) ?_
        refine z_get C f_X2_21 hP (q0 := 0) rfl rfl dX2_meanPurse_23 ?_
        refine z_get C f_X2_43 hP (q0 := 1) rfl rfl dX2_meanPurse_26 ?_
        refine lv_iload_n hx hb dX2_meanPurse_29 rfl (lv_at hl 2 rfl) ?_
        obtain ⟨g9, h⟩ := h
        refine va_iald hx hb hK hP 2 0 rfl rfl g9 dX2_meanPurse_30 ?_
        refine lv_iadd hx hb dX2_meanPurse_31 ?_
        refine lv_istore_n (lv' := [(1, .int (x1 + (d.1.1 x2.toNatClampNeg))), (0, .ref (dA 0)), (2, .int x2)]) hx hb dX2_meanPurse_32 rfl hl (by decide) rfl (fun ls hl => ?_)
        refine lv_iinc (v := (x2 + 1)) (lv' := [(2, .int (x2 + 1)), (1, .int (x1 + (d.1.1 x2.toNatClampNeg))), (0, .ref (dA 0))]) hx hb dX2_meanPurse_33 hl (k := 2) rfl (by first | rfl | decide) (by decide) rfl (fun ls hl => ?_)
        refine lv_goto (tgt := 13) hx hb dX2_meanPurse_36 (by decide) ?_
        exact ih (x1 + (d.1.1 x2.toNatClampNeg)) (x2 + 1)  _ (lv_sub hl [2, 1, 0] rfl) h
  unfold wpX2_meanPurse at h
  refine lv_aload_n hx hb dX2_meanPurse_0 rfl (lv_at hl 0 rfl) ?_
  refine z_get C f_X2_32 hP (q0 := 0) rfl rfl dX2_meanPurse_1 ?_
  refine lv_if_ne (tgt := 9) hx hb dX2_meanPurse_4 (by decide) (fun c4 => ?_) (fun c4 => ?_)
  · have h := h.2 c4
    refine lv_iconst (v := 0) hx hb dX2_meanPurse_9 (by decide) ?_
    refine lv_istore_n (lv' := [(1, .int 0), (0, .ref (dA 0))]) hx hb dX2_meanPurse_10 rfl hl (by decide) rfl (fun ls hl => ?_)
    refine lv_iconst (v := 0) hx hb dX2_meanPurse_11 (by decide) ?_
    refine lv_istore_n (lv' := [(2, .int 0), (1, .int 0), (0, .ref (dA 0))]) hx hb dX2_meanPurse_12 rfl hl (by decide) rfl (fun ls hl => ?_)
    obtain ⟨n9, h⟩ := h
    exact k13 n9 0 0  _ (lv_sub hl [2, 1, 0] rfl) h
  · have h := h.1 c4
    refine lv_dconst0 hx hb dX2_meanPurse_7 ?_
    exact zR_dret C 0 rfl h dX2_meanPurse_8
def wpX2_digest_b195 (post : Int64 → DS → Prop) : Nat → Int64 → Int32 → DS → Prop
  | 0, _, _, _ => False
  | n + 1, x1, x3, d_ => (d_.2.2.1.2.2.2.2.2.2.2.2.2.2 ≤ x3 → post x1 d_) ∧ (¬ d_.2.2.1.2.2.2.2.2.2.2.2.2.2 ≤ x3 → wpX2_stateOf (fun r213 => wpX2_daysLeft (fun r226 => wpX2_stoppedFor (fun r239 => wpX2_priceOf (fun r252 => wpX2_hanging (fun r265 => wpX2_depthOf (fun r278 => wpX2_sealOf (fun r291 => wpX2_daysUntilFailed (fun r304 => wpX2_digest_b195 post n ((((((((((((((((x1 * (31 : Int64)) + r213.toInt64) * (31 : Int64)) + r226.toInt64) * (31 : Int64)) + r239.toInt64) * (31 : Int64)) + r252.toInt64) * (31 : Int64)) + r265.toInt64) * (31 : Int64)) + r278.toInt64) * (31 : Int64)) + r291.toInt64) * (31 : Int64)) + r304.toInt64) (x3 + 1) d_) (fun _ : String => False) d_ x3) (fun _ : String => False) d_ x3) (fun _ : String => False) d_ x3) (fun _ : String => False) d_ x3) (fun _ : String => False) d_ x3) (fun _ : String => False) d_ x3) (fun _ : String => False) d_ x3) (fun _ : String => False) d_ x3)
def wpX2_digest_b129 (post : Int64 → DS → Prop) (K92 : Int64 → Int32 → DS → Prop) : Nat → Int64 → Int32 → Int32 → DS → Prop
  | 0, _, _, _, _ => False
  | n + 1, x1, x3, x4, d_ => (d_.2.2.2.1 ≤ x4 → wpX2_purseIn (fun r168 d168 => wpX2_bestToPay (fun r181 d181 => K92 ((((x1 * (31 : Int64)) + r168.toInt64) * (31 : Int64)) + r181.toInt64) (x3 + 1) d181) (fun _ : String => False) d168 x3) (fun _ : String => False) d_ x3 30) ∧ (¬ d_.2.2.2.1 ≤ x4 → wpX2_balance (fun r147 => wpX2_digest_b129 post K92 n ((x1 * (31 : Int64)) + r147.toInt64) x3 (x4 + 1) d_) (fun _ : String => False) d_ x3 x4)
def wpX2_digest_b92 (post : Int64 → DS → Prop) : Nat → Int64 → Int32 → DS → Prop
  | 0, _, _, _ => False
  | n + 1, x1, x3, d_ => (d_.2.2.2.1 ≤ x3 → ∃ n195 : Nat, wpX2_digest_b195 post n195 x1 0 d_) ∧ (¬ d_.2.2.2.1 ≤ x3 → wpX2_purseOf (fun r107 => wpX2_owes (fun r120 => ∃ n129 : Nat, wpX2_digest_b129 post (fun z0 z1 z2 => wpX2_digest_b92 post n z0 z1 z2) n129 ((((x1 * (31 : Int64)) + r107.toInt64) * (31 : Int64)) + r120.toInt64) x3 0 d_) (fun _ : String => False) d_ x3) (fun _ : String => False) d_ x3)
def wpX2_digest_b42 (post : Int64 → DS → Prop) : Nat → Int64 → Int32 → DS → Prop
  | 0, _, _, _ => False
  | n + 1, x1, x3, d_ => (5 < x3 → wpX2_penalties (fun r72 => wpX2_weakest (fun r84 => ∃ n92 : Nat, wpX2_digest_b92 post n92 ((((x1 * (31 : Int64)) + r72.toInt64) * (31 : Int64)) + r84.toInt64) 0 d_) d_) d_) ∧ (¬ 5 < x3 → wpX2_inState (fun r54 => wpX2_digest_b42 post n ((x1 * (31 : Int64)) + r54.toInt64) (x3 + 1) d_) (fun _ : String => False) d_ x3)
def wpX2_digest (post : Int64 → DS → Prop) (d : DS) : Prop := wpX2_day (fun r10 => wpX2_parties (fun r22 => wpX2_duties (fun r34 => ∃ n42 : Nat, wpX2_digest_b42 post n42 (((((((2269 : Int64) * (31 : Int64)) + r10.toInt64) * (31 : Int64)) + r22.toInt64) * (31 : Int64)) + r34.toInt64) 0 d) d) d) d
set_option maxHeartbeats 4000000 in
set_option maxRecDepth 100000 in
theorem c_X2_digest {l : Launch} (hfl : l.stackTraces = false) {s0 : State} (hs0 : zS s0) (D : va_G) (cI cB cJ : ClassId) (dA : Nat → Nat) (bA : Nat → Nat) (aA : Nat → Nat) (tA : Nat → Nat) (d : DS) {post : Int64 → DS → Prop} (h : wpX2_digest post d) : zW s0 l D (zty cI cB cJ) yX2_digest cX2_digest 5 (some .long) 7 0 0 [.ref (dA 0)] (wD cI dA bA aA tA d) (fun u : Int64 × DS => some (Value.long u.1)) (fun u : Int64 × DS => post u.1 u.2) (fun u : Int64 × DS => wD cI dA bA aA tA u.2) := by
  refine zW_intro (by decide +kernel) (Nat.le_of_ble_eq_true rfl) ?_
  intro p e s m below meth c A C hnm hA hG hP hD hS ls hl
  have C : zC D (zty cI cB cJ) p s m ([.ref (dA 0)] : List Value).toArray meth c cX2_digest RX2 (some .long) 5 := C
  have hx := C.1
  have hb := C.2.1
  have hts := C.2.2.1
  have hown := C.2.2.2.1
  have hml := C.2.2.2.2.2.1
  have hK := C.2.2.2.2.2.2.2
  have hl : lv_has ls 5 [(0, .ref (dA 0))] := hl
  have hP : va_P D vwCl (wD cI dA bA aA tA d) s.heap := hP
  have hD : va_D A (wD cI dA bA aA tA d) := hD
  have k195 : ∀ (n : Nat) (x1 : Int64) (x3 : Int32) (d_ : DS) (H : Heap) (locs : List Loc), va_P D vwCl (wD cI dA bA aA tA d_) H → va_D A (wD cI dA bA aA tA d_) → va_S A s.heap H locs → ∀ (ls : Array Slot), lv_has ls 5 [(0, .ref (dA 0)), (1, .long x1), (3, .int x3)] → wpX2_digest_b195 post n x1 x3 d_ → W p l e (zr 7 0 0) s m ([.ref (dA 0)] : List Value).toArray below meth c H locs 0 0 (MQ below (zQ D (fun u : Int64 × DS => some (Value.long u.1)) (fun u : Int64 × DS => post u.1 u.2) (fun u : Int64 × DS => wD cI dA bA aA tA u.2) A) ([.ref (dA 0)] : List Value).toArray s 0 0 A) (F0 m 195 ls []) := by
    intro n
    induction n with
    | zero =>
      intro x1 x3 d_ H locs hP hD hS ls hl h
      exact h.elim
    | succ n ih =>
      intro x1 x3 d_ H locs hP hD hS ls hl h
      rw [wpX2_digest_b195] at h
      refine lv_iload_n hx hb dX2_digest_195 rfl (lv_at hl 2 rfl) ?_
      refine lv_aload_n hx hb dX2_digest_196 rfl (lv_at hl 0 rfl) ?_
      refine z_get C f_X2_10 hP (q0 := 0) rfl rfl dX2_digest_197 ?_
      refine z_get C f_X2_59 hP (q0 := 11) rfl rfl dX2_digest_200 ?_
      refine lv_icmp_ge (tgt := 316) hx hb dX2_digest_203 (by decide) (fun c203 => ?_) (fun c203 => ?_)
      · have h := h.1 c203
        refine lv_lload_n hx hb dX2_digest_316 rfl (lv_at hl 1 rfl) ?_
        exact zW_lret C (x1, d_) rfl h hP hD hS (Nat.le_of_ble_eq_true rfl) (Nat.le_of_ble_eq_true rfl) dX2_digest_317
      · have h := h.2 c203
        refine lv_lload_n hx hb dX2_digest_206 rfl (lv_at hl 1 rfl) ?_
        refine lv_ldc2 hx hb hown (hts _ q266) dX2_digest_207 ?_
        refine lv_lmul hx hb dX2_digest_210 ?_
        refine lv_aload_n hx hb dX2_digest_211 rfl (lv_at hl 0 rfl) ?_
        refine lv_iload_n hx hb dX2_digest_212 rfl (lv_at hl 2 rfl) ?_
        refine z_RV (As := [.int x3]) (rest := [.long (x1 * (31 : Int64))]) [0, 1, 2, 3, 4, 5, 6, 7, 8, 9, 10, 11, 12, 13, 14, 15, 16, 17, 18, 19, 20, 21] C (hG.kept hS.1 hS.2.1).none hP (c_X2_stateOf hfl hs0 D cI cB cJ dA bA aA tA d_ x3 h) q290 v_X2_stateOf rfl rfl rfl rfl ⟨(Nat.le_of_ble_eq_true rfl), (Nat.le_of_ble_eq_true rfl)⟩ ⟨(Nat.le_of_ble_eq_true rfl), (Nat.le_of_ble_eq_true rfl)⟩ hl.1 rfl (lv_room (Nat.le_of_ble_eq_true rfl)) dX2_digest_213 (fun r213 h => ?_)
        refine lv_i2l hx hb dX2_digest_216 rfl ?_
        refine lv_ladd hx hb dX2_digest_217 ?_
        refine lv_lstore_n (lv' := [(1, .long ((x1 * (31 : Int64)) + r213.toInt64)), (0, .ref (dA 0)), (3, .int x3)]) hx hb dX2_digest_218 rfl hl (by decide) rfl (fun ls hl => ?_)
        refine lv_lload_n hx hb dX2_digest_219 rfl (lv_at hl 0 rfl) ?_
        refine lv_ldc2 hx hb hown (hts _ q266) dX2_digest_220 ?_
        refine lv_lmul hx hb dX2_digest_223 ?_
        refine lv_aload_n hx hb dX2_digest_224 rfl (lv_at hl 1 rfl) ?_
        refine lv_iload_n hx hb dX2_digest_225 rfl (lv_at hl 2 rfl) ?_
        refine z_RV (As := [.int x3]) (rest := [.long (((x1 * (31 : Int64)) + r213.toInt64) * (31 : Int64))]) [0, 1, 2, 3, 4, 5, 6, 7, 8, 9, 10, 11, 12, 13, 14, 15, 16, 17, 18, 19, 20, 21] C (hG.kept hS.1 hS.2.1).none hP (c_X2_daysLeft hfl hs0 D cI cB cJ dA bA aA tA d_ x3 h) q294 v_X2_daysLeft rfl rfl rfl rfl ⟨(Nat.le_of_ble_eq_true rfl), (Nat.le_of_ble_eq_true rfl)⟩ ⟨(Nat.le_of_ble_eq_true rfl), (Nat.le_of_ble_eq_true rfl)⟩ hl.1 rfl (lv_room (Nat.le_of_ble_eq_true rfl)) dX2_digest_226 (fun r226 h => ?_)
        refine lv_i2l hx hb dX2_digest_229 rfl ?_
        refine lv_ladd hx hb dX2_digest_230 ?_
        refine lv_lstore_n (lv' := [(1, .long ((((x1 * (31 : Int64)) + r213.toInt64) * (31 : Int64)) + r226.toInt64)), (0, .ref (dA 0)), (3, .int x3)]) hx hb dX2_digest_231 rfl hl (by decide) rfl (fun ls hl => ?_)
        refine lv_lload_n hx hb dX2_digest_232 rfl (lv_at hl 0 rfl) ?_
        refine lv_ldc2 hx hb hown (hts _ q266) dX2_digest_233 ?_
        refine lv_lmul hx hb dX2_digest_236 ?_
        refine lv_aload_n hx hb dX2_digest_237 rfl (lv_at hl 1 rfl) ?_
        refine lv_iload_n hx hb dX2_digest_238 rfl (lv_at hl 2 rfl) ?_
        refine z_RV (As := [.int x3]) (rest := [.long (((((x1 * (31 : Int64)) + r213.toInt64) * (31 : Int64)) + r226.toInt64) * (31 : Int64))]) [0, 1, 2, 3, 4, 5, 6, 7, 8, 9, 10, 11, 12, 13, 14, 15, 16, 17, 18, 19, 20, 21] C (hG.kept hS.1 hS.2.1).none hP (c_X2_stoppedFor hfl hs0 D cI cB cJ dA bA aA tA d_ x3 h) q298 v_X2_stoppedFor rfl rfl rfl rfl ⟨(Nat.le_of_ble_eq_true rfl), (Nat.le_of_ble_eq_true rfl)⟩ ⟨(Nat.le_of_ble_eq_true rfl), (Nat.le_of_ble_eq_true rfl)⟩ hl.1 rfl (lv_room (Nat.le_of_ble_eq_true rfl)) dX2_digest_239 (fun r239 h => ?_)
        refine lv_i2l hx hb dX2_digest_242 rfl ?_
        refine lv_ladd hx hb dX2_digest_243 ?_
        refine lv_lstore_n (lv' := [(1, .long ((((((x1 * (31 : Int64)) + r213.toInt64) * (31 : Int64)) + r226.toInt64) * (31 : Int64)) + r239.toInt64)), (0, .ref (dA 0)), (3, .int x3)]) hx hb dX2_digest_244 rfl hl (by decide) rfl (fun ls hl => ?_)
        refine lv_lload_n hx hb dX2_digest_245 rfl (lv_at hl 0 rfl) ?_
        refine lv_ldc2 hx hb hown (hts _ q266) dX2_digest_246 ?_
        refine lv_lmul hx hb dX2_digest_249 ?_
        refine lv_aload_n hx hb dX2_digest_250 rfl (lv_at hl 1 rfl) ?_
        refine lv_iload_n hx hb dX2_digest_251 rfl (lv_at hl 2 rfl) ?_
        refine z_RV (As := [.int x3]) (rest := [.long (((((((x1 * (31 : Int64)) + r213.toInt64) * (31 : Int64)) + r226.toInt64) * (31 : Int64)) + r239.toInt64) * (31 : Int64))]) [0, 1, 2, 3, 4, 5, 6, 7, 8, 9, 10, 11, 12, 13, 14, 15, 16, 17, 18, 19, 20, 21] C (hG.kept hS.1 hS.2.1).none hP (c_X2_priceOf hfl hs0 D cI cB cJ dA bA aA tA d_ x3 h) q302 v_X2_priceOf rfl rfl rfl rfl ⟨(Nat.le_of_ble_eq_true rfl), (Nat.le_of_ble_eq_true rfl)⟩ ⟨(Nat.le_of_ble_eq_true rfl), (Nat.le_of_ble_eq_true rfl)⟩ hl.1 rfl (lv_room (Nat.le_of_ble_eq_true rfl)) dX2_digest_252 (fun r252 h => ?_)
        refine lv_i2l hx hb dX2_digest_255 rfl ?_
        refine lv_ladd hx hb dX2_digest_256 ?_
        refine lv_lstore_n (lv' := [(1, .long ((((((((x1 * (31 : Int64)) + r213.toInt64) * (31 : Int64)) + r226.toInt64) * (31 : Int64)) + r239.toInt64) * (31 : Int64)) + r252.toInt64)), (0, .ref (dA 0)), (3, .int x3)]) hx hb dX2_digest_257 rfl hl (by decide) rfl (fun ls hl => ?_)
        refine lv_lload_n hx hb dX2_digest_258 rfl (lv_at hl 0 rfl) ?_
        refine lv_ldc2 hx hb hown (hts _ q266) dX2_digest_259 ?_
        refine lv_lmul hx hb dX2_digest_262 ?_
        refine lv_aload_n hx hb dX2_digest_263 rfl (lv_at hl 1 rfl) ?_
        refine lv_iload_n hx hb dX2_digest_264 rfl (lv_at hl 2 rfl) ?_
        refine z_RV (As := [.int x3]) (rest := [.long (((((((((x1 * (31 : Int64)) + r213.toInt64) * (31 : Int64)) + r226.toInt64) * (31 : Int64)) + r239.toInt64) * (31 : Int64)) + r252.toInt64) * (31 : Int64))]) [0, 1, 2, 3, 4, 5, 6, 7, 8, 9, 10, 11, 12, 13, 14, 15, 16, 17, 18, 19, 20, 21] C (hG.kept hS.1 hS.2.1).none hP (c_X2_hanging hfl hs0 D cI cB cJ dA bA aA tA d_ x3 h) q306 v_X2_hanging rfl rfl rfl rfl ⟨(Nat.le_of_ble_eq_true rfl), (Nat.le_of_ble_eq_true rfl)⟩ ⟨(Nat.le_of_ble_eq_true rfl), (Nat.le_of_ble_eq_true rfl)⟩ hl.1 rfl (lv_room (Nat.le_of_ble_eq_true rfl)) dX2_digest_265 (fun r265 h => ?_)
        refine lv_i2l hx hb dX2_digest_268 rfl ?_
        refine lv_ladd hx hb dX2_digest_269 ?_
        refine lv_lstore_n (lv' := [(1, .long ((((((((((x1 * (31 : Int64)) + r213.toInt64) * (31 : Int64)) + r226.toInt64) * (31 : Int64)) + r239.toInt64) * (31 : Int64)) + r252.toInt64) * (31 : Int64)) + r265.toInt64)), (0, .ref (dA 0)), (3, .int x3)]) hx hb dX2_digest_270 rfl hl (by decide) rfl (fun ls hl => ?_)
        refine lv_lload_n hx hb dX2_digest_271 rfl (lv_at hl 0 rfl) ?_
        refine lv_ldc2 hx hb hown (hts _ q266) dX2_digest_272 ?_
        refine lv_lmul hx hb dX2_digest_275 ?_
        refine lv_aload_n hx hb dX2_digest_276 rfl (lv_at hl 1 rfl) ?_
        refine lv_iload_n hx hb dX2_digest_277 rfl (lv_at hl 2 rfl) ?_
        refine z_RV (As := [.int x3]) (rest := [.long (((((((((((x1 * (31 : Int64)) + r213.toInt64) * (31 : Int64)) + r226.toInt64) * (31 : Int64)) + r239.toInt64) * (31 : Int64)) + r252.toInt64) * (31 : Int64)) + r265.toInt64) * (31 : Int64))]) [0, 1, 2, 3, 4, 5, 6, 7, 8, 9, 10, 11, 12, 13, 14, 15, 16, 17, 18, 19, 20, 21] C (hG.kept hS.1 hS.2.1).none hP (c_X2_depthOf hfl hs0 D cI cB cJ dA bA aA tA d_ x3 h) q310 v_X2_depthOf rfl rfl rfl rfl ⟨(Nat.le_of_ble_eq_true rfl), (Nat.le_of_ble_eq_true rfl)⟩ ⟨(Nat.le_of_ble_eq_true rfl), (Nat.le_of_ble_eq_true rfl)⟩ hl.1 rfl (lv_room (Nat.le_of_ble_eq_true rfl)) dX2_digest_278 (fun r278 h => ?_)
        refine lv_i2l hx hb dX2_digest_281 rfl ?_
        refine lv_ladd hx hb dX2_digest_282 ?_
        refine lv_lstore_n (lv' := [(1, .long ((((((((((((x1 * (31 : Int64)) + r213.toInt64) * (31 : Int64)) + r226.toInt64) * (31 : Int64)) + r239.toInt64) * (31 : Int64)) + r252.toInt64) * (31 : Int64)) + r265.toInt64) * (31 : Int64)) + r278.toInt64)), (0, .ref (dA 0)), (3, .int x3)]) hx hb dX2_digest_283 rfl hl (by decide) rfl (fun ls hl => ?_)
        refine lv_lload_n hx hb dX2_digest_284 rfl (lv_at hl 0 rfl) ?_
        refine lv_ldc2 hx hb hown (hts _ q266) dX2_digest_285 ?_
        refine lv_lmul hx hb dX2_digest_288 ?_
        refine lv_aload_n hx hb dX2_digest_289 rfl (lv_at hl 1 rfl) ?_
        refine lv_iload_n hx hb dX2_digest_290 rfl (lv_at hl 2 rfl) ?_
        refine z_RV (As := [.int x3]) (rest := [.long (((((((((((((x1 * (31 : Int64)) + r213.toInt64) * (31 : Int64)) + r226.toInt64) * (31 : Int64)) + r239.toInt64) * (31 : Int64)) + r252.toInt64) * (31 : Int64)) + r265.toInt64) * (31 : Int64)) + r278.toInt64) * (31 : Int64))]) [0, 1, 2, 3, 4, 5, 6, 7, 8, 9, 10, 11, 12, 13, 14, 15, 16, 17, 18, 19, 20, 21] C (hG.kept hS.1 hS.2.1).none hP (c_X2_sealOf hfl hs0 D cI cB cJ dA bA aA tA d_ x3 h) q314 v_X2_sealOf rfl rfl rfl rfl ⟨(Nat.le_of_ble_eq_true rfl), (Nat.le_of_ble_eq_true rfl)⟩ ⟨(Nat.le_of_ble_eq_true rfl), (Nat.le_of_ble_eq_true rfl)⟩ hl.1 rfl (lv_room (Nat.le_of_ble_eq_true rfl)) dX2_digest_291 (fun r291 h => ?_)
        refine lv_i2l hx hb dX2_digest_294 rfl ?_
        refine lv_ladd hx hb dX2_digest_295 ?_
        refine lv_lstore_n (lv' := [(1, .long ((((((((((((((x1 * (31 : Int64)) + r213.toInt64) * (31 : Int64)) + r226.toInt64) * (31 : Int64)) + r239.toInt64) * (31 : Int64)) + r252.toInt64) * (31 : Int64)) + r265.toInt64) * (31 : Int64)) + r278.toInt64) * (31 : Int64)) + r291.toInt64)), (0, .ref (dA 0)), (3, .int x3)]) hx hb dX2_digest_296 rfl hl (by decide) rfl (fun ls hl => ?_)
        refine lv_lload_n hx hb dX2_digest_297 rfl (lv_at hl 0 rfl) ?_
        refine lv_ldc2 hx hb hown (hts _ q266) dX2_digest_298 ?_
        refine lv_lmul hx hb dX2_digest_301 ?_
        refine lv_aload_n hx hb dX2_digest_302 rfl (lv_at hl 1 rfl) ?_
        refine lv_iload_n hx hb dX2_digest_303 rfl (lv_at hl 2 rfl) ?_
        refine z_RV (As := [.int x3]) (rest := [.long (((((((((((((((x1 * (31 : Int64)) + r213.toInt64) * (31 : Int64)) + r226.toInt64) * (31 : Int64)) + r239.toInt64) * (31 : Int64)) + r252.toInt64) * (31 : Int64)) + r265.toInt64) * (31 : Int64)) + r278.toInt64) * (31 : Int64)) + r291.toInt64) * (31 : Int64))]) [0, 1, 2, 3, 4, 5, 6, 7, 8, 9, 10, 11, 12, 13, 14, 15, 16, 17, 18, 19, 20, 21] C (hG.kept hS.1 hS.2.1).none hP (c_X2_daysUntilFailed hfl hs0 D cI cB cJ dA bA aA tA d_ x3 h) q318 v_X2_daysUntilFailed rfl rfl rfl rfl ⟨(Nat.le_of_ble_eq_true rfl), (Nat.le_of_ble_eq_true rfl)⟩ ⟨(Nat.le_of_ble_eq_true rfl), (Nat.le_of_ble_eq_true rfl)⟩ hl.1 rfl (lv_room (Nat.le_of_ble_eq_true rfl)) dX2_digest_304 (fun r304 h => ?_)
        refine lv_i2l hx hb dX2_digest_307 rfl ?_
        refine lv_ladd hx hb dX2_digest_308 ?_
        refine lv_lstore_n (lv' := [(1, .long ((((((((((((((((x1 * (31 : Int64)) + r213.toInt64) * (31 : Int64)) + r226.toInt64) * (31 : Int64)) + r239.toInt64) * (31 : Int64)) + r252.toInt64) * (31 : Int64)) + r265.toInt64) * (31 : Int64)) + r278.toInt64) * (31 : Int64)) + r291.toInt64) * (31 : Int64)) + r304.toInt64)), (0, .ref (dA 0)), (3, .int x3)]) hx hb dX2_digest_309 rfl hl (by decide) rfl (fun ls hl => ?_)
        refine lv_iinc (v := (x3 + 1)) (lv' := [(3, .int (x3 + 1)), (1, .long ((((((((((((((((x1 * (31 : Int64)) + r213.toInt64) * (31 : Int64)) + r226.toInt64) * (31 : Int64)) + r239.toInt64) * (31 : Int64)) + r252.toInt64) * (31 : Int64)) + r265.toInt64) * (31 : Int64)) + r278.toInt64) * (31 : Int64)) + r291.toInt64) * (31 : Int64)) + r304.toInt64)), (0, .ref (dA 0))]) hx hb dX2_digest_310 hl (k := 2) rfl (by first | rfl | decide) (by decide) rfl (fun ls hl => ?_)
        refine lv_goto (tgt := 195) hx hb dX2_digest_313 (by decide) ?_
        refine W.widen (k := 0) (n := 0) (Nat.le_of_ble_eq_true rfl) (Nat.le_of_ble_eq_true rfl) ?_
        exact ih ((((((((((((((((x1 * (31 : Int64)) + r213.toInt64) * (31 : Int64)) + r226.toInt64) * (31 : Int64)) + r239.toInt64) * (31 : Int64)) + r252.toInt64) * (31 : Int64)) + r265.toInt64) * (31 : Int64)) + r278.toInt64) * (31 : Int64)) + r291.toInt64) * (31 : Int64)) + r304.toInt64) (x3 + 1) d_  _ _ hP hD hS _ (lv_sub hl [2, 1, 0] rfl) h
  have k129 : ∀ (K92 : Int64 → Int32 → DS → Prop) (hK92 : ∀ (x1 : Int64) (x3 : Int32) (d_ : DS) (H : Heap) (locs : List Loc), va_P D vwCl (wD cI dA bA aA tA d_) H → va_D A (wD cI dA bA aA tA d_) → va_S A s.heap H locs → ∀ (ls : Array Slot), lv_has ls 5 [(0, .ref (dA 0)), (1, .long x1), (3, .int x3)] → K92 x1 x3 d_ → W p l e (zr 7 0 0) s m ([.ref (dA 0)] : List Value).toArray below meth c H locs 0 0 (MQ below (zQ D (fun u : Int64 × DS => some (Value.long u.1)) (fun u : Int64 × DS => post u.1 u.2) (fun u : Int64 × DS => wD cI dA bA aA tA u.2) A) ([.ref (dA 0)] : List Value).toArray s 0 0 A) (F0 m 92 ls [])), ∀ (n : Nat) (x1 : Int64) (x3 : Int32) (x4 : Int32) (d_ : DS) (H : Heap) (locs : List Loc), va_P D vwCl (wD cI dA bA aA tA d_) H → va_D A (wD cI dA bA aA tA d_) → va_S A s.heap H locs → ∀ (ls : Array Slot), lv_has ls 5 [(0, .ref (dA 0)), (1, .long x1), (3, .int x3), (4, .int x4)] → wpX2_digest_b129 post K92 n x1 x3 x4 d_ → W p l e (zr 7 0 0) s m ([.ref (dA 0)] : List Value).toArray below meth c H locs 0 0 (MQ below (zQ D (fun u : Int64 × DS => some (Value.long u.1)) (fun u : Int64 × DS => post u.1 u.2) (fun u : Int64 × DS => wD cI dA bA aA tA u.2) A) ([.ref (dA 0)] : List Value).toArray s 0 0 A) (F0 m 129 ls []) := by
    intro K92 hK92
    intro n
    induction n with
    | zero =>
      intro x1 x3 x4 d_ H locs hP hD hS ls hl h
      exact h.elim
    | succ n ih =>
      intro x1 x3 x4 d_ H locs hP hD hS ls hl h
      rw [wpX2_digest_b129] at h
      refine lv_iload hx hb dX2_digest_129 (lv_at hl 3 rfl) ?_
      refine lv_aload_n hx hb dX2_digest_131 rfl (lv_at hl 0 rfl) ?_
      refine z_get C f_X2_32 hP (q0 := 0) rfl rfl dX2_digest_132 ?_
      refine lv_icmp_ge (tgt := 159) hx hb dX2_digest_135 (by decide) (fun c135 => ?_) (fun c135 => ?_)
      · have h := h.1 c135
        refine lv_lload_n hx hb dX2_digest_159 rfl (lv_at hl 1 rfl) ?_
        refine lv_ldc2 hx hb hown (hts _ q266) dX2_digest_160 ?_
        refine lv_lmul hx hb dX2_digest_163 ?_
        refine lv_aload_n hx hb dX2_digest_164 rfl (lv_at hl 0 rfl) ?_
        refine lv_iload_n hx hb dX2_digest_165 rfl (lv_at hl 2 rfl) ?_
        refine lv_bipush (v := 30) hx hb dX2_digest_166 (by decide) ?_
        refine z_WV (As := [.int x3, .int 30]) (rest := [.long (x1 * (31 : Int64))]) (wr := ([] : va_W)) (wN := (fun u : Int32 × DS => wD cI dA bA aA tA u.2)) [0, 1, 2, 3, 4, 5, 6, 7, 8, 9, 10, 11, 12, 13, 14, 15, 16, 17, 18, 19, 20, 21] [] [0, 1, 2, 3, 4, 5, 6, 7, 8, 9, 10, 11, 12, 13, 14, 15, 16, 17, 18, 19, 20, 21] C hG hA hP hD hS (c_X2_purseIn hfl hs0 D cI cB cJ dA bA aA tA d_ x3 30 h) q326 v_X2_purseIn rfl rfl ⟨by decide, by decide, by decide⟩ (by decide) (fun _ => rfl) rfl rfl rfl ⟨(Nat.le_of_ble_eq_true rfl), (Nat.le_of_ble_eq_true rfl)⟩ ⟨(Nat.le_of_ble_eq_true rfl), (Nat.le_of_ble_eq_true rfl)⟩ hl.1 rfl (lv_room (Nat.le_of_ble_eq_true rfl)) dX2_digest_168 (fun u H locs h hP hD hS => ?_)
        obtain ⟨r168, d168⟩ := u
        have hP : va_P D vwCl (wD cI dA bA aA tA d168) H := hP
        have hD : va_D A (wD cI dA bA aA tA d168) := hD
        refine lv_i2l hx hb dX2_digest_171 rfl ?_
        refine lv_ladd hx hb dX2_digest_172 ?_
        refine lv_lstore_n (lv' := [(1, .long ((x1 * (31 : Int64)) + r168.toInt64)), (0, .ref (dA 0)), (3, .int x3), (4, .int x4)]) hx hb dX2_digest_173 rfl hl (by decide) rfl (fun ls hl => ?_)
        refine lv_lload_n hx hb dX2_digest_174 rfl (lv_at hl 0 rfl) ?_
        refine lv_ldc2 hx hb hown (hts _ q266) dX2_digest_175 ?_
        refine lv_lmul hx hb dX2_digest_178 ?_
        refine lv_aload_n hx hb dX2_digest_179 rfl (lv_at hl 1 rfl) ?_
        refine lv_iload_n hx hb dX2_digest_180 rfl (lv_at hl 2 rfl) ?_
        refine z_WV (As := [.int x3]) (rest := [.long (((x1 * (31 : Int64)) + r168.toInt64) * (31 : Int64))]) (wr := ([] : va_W)) (wN := (fun u : Int32 × DS => wD cI dA bA aA tA u.2)) [0, 1, 2, 3, 4, 5, 6, 7, 8, 9, 10, 11, 12, 13, 14, 15, 16, 17, 18, 19, 20, 21] [] [0, 1, 2, 3, 4, 5, 6, 7, 8, 9, 10, 11, 12, 13, 14, 15, 16, 17, 18, 19, 20, 21] C hG hA hP hD hS (c_X2_bestToPay hfl hs0 D cI cB cJ dA bA aA tA d168 x3 h) q330 v_X2_bestToPay rfl rfl ⟨by decide, by decide, by decide⟩ (by decide) (fun _ => rfl) rfl rfl rfl ⟨(Nat.le_of_ble_eq_true rfl), (Nat.le_of_ble_eq_true rfl)⟩ ⟨(Nat.le_of_ble_eq_true rfl), (Nat.le_of_ble_eq_true rfl)⟩ hl.1 rfl (lv_room (Nat.le_of_ble_eq_true rfl)) dX2_digest_181 (fun u H locs h hP hD hS => ?_)
        obtain ⟨r181, d181⟩ := u
        have hP : va_P D vwCl (wD cI dA bA aA tA d181) H := hP
        have hD : va_D A (wD cI dA bA aA tA d181) := hD
        refine lv_i2l hx hb dX2_digest_184 rfl ?_
        refine lv_ladd hx hb dX2_digest_185 ?_
        refine lv_lstore_n (lv' := [(1, .long ((((x1 * (31 : Int64)) + r168.toInt64) * (31 : Int64)) + r181.toInt64)), (0, .ref (dA 0)), (3, .int x3), (4, .int x4)]) hx hb dX2_digest_186 rfl hl (by decide) rfl (fun ls hl => ?_)
        refine lv_iinc (v := (x3 + 1)) (lv' := [(3, .int (x3 + 1)), (1, .long ((((x1 * (31 : Int64)) + r168.toInt64) * (31 : Int64)) + r181.toInt64)), (0, .ref (dA 0)), (4, .int x4)]) hx hb dX2_digest_187 hl (k := 2) rfl (by first | rfl | decide) (by decide) rfl (fun ls hl => ?_)
        refine lv_goto (tgt := 92) hx hb dX2_digest_190 (by decide) ?_
        refine W.widen (k := 0) (n := 0) (Nat.le_of_ble_eq_true rfl) (Nat.le_of_ble_eq_true rfl) ?_
        exact hK92 ((((x1 * (31 : Int64)) + r168.toInt64) * (31 : Int64)) + r181.toInt64) (x3 + 1) d181  _ _ hP hD hS _ (lv_sub hl [2, 1, 0] rfl) h
      · have h := h.2 c135
        refine lv_lload_n hx hb dX2_digest_138 rfl (lv_at hl 1 rfl) ?_
        refine lv_ldc2 hx hb hown (hts _ q266) dX2_digest_139 ?_
        refine lv_lmul hx hb dX2_digest_142 ?_
        refine lv_aload_n hx hb dX2_digest_143 rfl (lv_at hl 0 rfl) ?_
        refine lv_iload_n hx hb dX2_digest_144 rfl (lv_at hl 2 rfl) ?_
        refine lv_iload hx hb dX2_digest_145 (lv_at hl 3 rfl) ?_
        refine z_RV (As := [.int x3, .int x4]) (rest := [.long (x1 * (31 : Int64))]) [0, 1, 2, 3, 4, 5, 6, 7, 8, 9, 10, 11, 12, 13, 14, 15, 16, 17, 18, 19, 20, 21] C (hG.kept hS.1 hS.2.1).none hP (c_X2_balance hfl hs0 D cI cB cJ dA bA aA tA d_ x3 x4 h) q334 v_X2_balance rfl rfl rfl rfl ⟨(Nat.le_of_ble_eq_true rfl), (Nat.le_of_ble_eq_true rfl)⟩ ⟨(Nat.le_of_ble_eq_true rfl), (Nat.le_of_ble_eq_true rfl)⟩ hl.1 rfl (lv_room (Nat.le_of_ble_eq_true rfl)) dX2_digest_147 (fun r147 h => ?_)
        refine lv_i2l hx hb dX2_digest_150 rfl ?_
        refine lv_ladd hx hb dX2_digest_151 ?_
        refine lv_lstore_n (lv' := [(1, .long ((x1 * (31 : Int64)) + r147.toInt64)), (0, .ref (dA 0)), (3, .int x3), (4, .int x4)]) hx hb dX2_digest_152 rfl hl (by decide) rfl (fun ls hl => ?_)
        refine lv_iinc (v := (x4 + 1)) (lv' := [(4, .int (x4 + 1)), (1, .long ((x1 * (31 : Int64)) + r147.toInt64)), (0, .ref (dA 0)), (3, .int x3)]) hx hb dX2_digest_153 hl (k := 3) rfl (by first | rfl | decide) (by decide) rfl (fun ls hl => ?_)
        refine lv_goto (tgt := 129) hx hb dX2_digest_156 (by decide) ?_
        refine W.widen (k := 0) (n := 0) (Nat.le_of_ble_eq_true rfl) (Nat.le_of_ble_eq_true rfl) ?_
        exact ih ((x1 * (31 : Int64)) + r147.toInt64) x3 (x4 + 1) d_  _ _ hP hD hS _ (lv_sub hl [2, 1, 3, 0] rfl) h
  have k92 : ∀ (n : Nat) (x1 : Int64) (x3 : Int32) (d_ : DS) (H : Heap) (locs : List Loc), va_P D vwCl (wD cI dA bA aA tA d_) H → va_D A (wD cI dA bA aA tA d_) → va_S A s.heap H locs → ∀ (ls : Array Slot), lv_has ls 5 [(0, .ref (dA 0)), (1, .long x1), (3, .int x3)] → wpX2_digest_b92 post n x1 x3 d_ → W p l e (zr 7 0 0) s m ([.ref (dA 0)] : List Value).toArray below meth c H locs 0 0 (MQ below (zQ D (fun u : Int64 × DS => some (Value.long u.1)) (fun u : Int64 × DS => post u.1 u.2) (fun u : Int64 × DS => wD cI dA bA aA tA u.2) A) ([.ref (dA 0)] : List Value).toArray s 0 0 A) (F0 m 92 ls []) := by
    intro n
    induction n with
    | zero =>
      intro x1 x3 d_ H locs hP hD hS ls hl h
      exact h.elim
    | succ n ih =>
      intro x1 x3 d_ H locs hP hD hS ls hl h
      rw [wpX2_digest_b92] at h
      refine lv_iload_n hx hb dX2_digest_92 rfl (lv_at hl 2 rfl) ?_
      refine lv_aload_n hx hb dX2_digest_93 rfl (lv_at hl 0 rfl) ?_
      refine z_get C f_X2_32 hP (q0 := 0) rfl rfl dX2_digest_94 ?_
      refine lv_icmp_ge (tgt := 193) hx hb dX2_digest_97 (by decide) (fun c97 => ?_) (fun c97 => ?_)
      · have h := h.1 c97
        refine lv_iconst (v := 0) hx hb dX2_digest_193 (by decide) ?_
        refine lv_istore_n (lv' := [(3, .int 0), (0, .ref (dA 0)), (1, .long x1)]) hx hb dX2_digest_194 rfl hl (by decide) rfl (fun ls hl => ?_)
        refine W.widen (k := 0) (n := 0) (Nat.le_of_ble_eq_true rfl) (Nat.le_of_ble_eq_true rfl) ?_
        obtain ⟨n9, h⟩ := h
        exact k195 n9 x1 0 d_  _ _ hP hD hS _ (lv_sub hl [1, 2, 0] rfl) h
      · have h := h.2 c97
        refine lv_lload_n hx hb dX2_digest_100 rfl (lv_at hl 1 rfl) ?_
        refine lv_ldc2 hx hb hown (hts _ q266) dX2_digest_101 ?_
        refine lv_lmul hx hb dX2_digest_104 ?_
        refine lv_aload_n hx hb dX2_digest_105 rfl (lv_at hl 0 rfl) ?_
        refine lv_iload_n hx hb dX2_digest_106 rfl (lv_at hl 2 rfl) ?_
        refine z_RV (As := [.int x3]) (rest := [.long (x1 * (31 : Int64))]) [0, 1, 2, 3, 4, 5, 6, 7, 8, 9, 10, 11, 12, 13, 14, 15, 16, 17, 18, 19, 20, 21] C (hG.kept hS.1 hS.2.1).none hP (c_X2_purseOf hfl hs0 D cI cB cJ dA bA aA tA d_ x3 h) q322 v_X2_purseOf rfl rfl rfl rfl ⟨(Nat.le_of_ble_eq_true rfl), (Nat.le_of_ble_eq_true rfl)⟩ ⟨(Nat.le_of_ble_eq_true rfl), (Nat.le_of_ble_eq_true rfl)⟩ hl.1 rfl (lv_room (Nat.le_of_ble_eq_true rfl)) dX2_digest_107 (fun r107 h => ?_)
        refine lv_i2l hx hb dX2_digest_110 rfl ?_
        refine lv_ladd hx hb dX2_digest_111 ?_
        refine lv_lstore_n (lv' := [(1, .long ((x1 * (31 : Int64)) + r107.toInt64)), (0, .ref (dA 0)), (3, .int x3)]) hx hb dX2_digest_112 rfl hl (by decide) rfl (fun ls hl => ?_)
        refine lv_lload_n hx hb dX2_digest_113 rfl (lv_at hl 0 rfl) ?_
        refine lv_ldc2 hx hb hown (hts _ q266) dX2_digest_114 ?_
        refine lv_lmul hx hb dX2_digest_117 ?_
        refine lv_aload_n hx hb dX2_digest_118 rfl (lv_at hl 1 rfl) ?_
        refine lv_iload_n hx hb dX2_digest_119 rfl (lv_at hl 2 rfl) ?_
        refine z_RV (As := [.int x3]) (rest := [.long (((x1 * (31 : Int64)) + r107.toInt64) * (31 : Int64))]) [0, 1, 2, 3, 4, 5, 6, 7, 8, 9, 10, 11, 12, 13, 14, 15, 16, 17, 18, 19, 20, 21] C (hG.kept hS.1 hS.2.1).none hP (c_X2_owes hfl hs0 D cI cB cJ dA bA aA tA d_ x3 h) q254 v_X2_owes rfl rfl rfl rfl ⟨(Nat.le_of_ble_eq_true rfl), (Nat.le_of_ble_eq_true rfl)⟩ ⟨(Nat.le_of_ble_eq_true rfl), (Nat.le_of_ble_eq_true rfl)⟩ hl.1 rfl (lv_room (Nat.le_of_ble_eq_true rfl)) dX2_digest_120 (fun r120 h => ?_)
        refine lv_i2l hx hb dX2_digest_123 rfl ?_
        refine lv_ladd hx hb dX2_digest_124 ?_
        refine lv_lstore_n (lv' := [(1, .long ((((x1 * (31 : Int64)) + r107.toInt64) * (31 : Int64)) + r120.toInt64)), (0, .ref (dA 0)), (3, .int x3)]) hx hb dX2_digest_125 rfl hl (by decide) rfl (fun ls hl => ?_)
        refine lv_iconst (v := 0) hx hb dX2_digest_126 (by decide) ?_
        refine lv_istore (lv' := [(4, .int 0), (1, .long ((((x1 * (31 : Int64)) + r107.toInt64) * (31 : Int64)) + r120.toInt64)), (0, .ref (dA 0)), (3, .int x3)]) hx hb dX2_digest_127 hl (by decide) rfl (fun ls hl => ?_)
        refine W.widen (k := 0) (n := 0) (Nat.le_of_ble_eq_true rfl) (Nat.le_of_ble_eq_true rfl) ?_
        obtain ⟨n9, h⟩ := h
        exact k129 _ ih n9 ((((x1 * (31 : Int64)) + r107.toInt64) * (31 : Int64)) + r120.toInt64) x3 0 d_  _ _ hP hD hS _ (lv_sub hl [2, 1, 3, 0] rfl) h
  have k42 : ∀ (n : Nat) (x1 : Int64) (x3 : Int32) (d_ : DS) (H : Heap) (locs : List Loc), va_P D vwCl (wD cI dA bA aA tA d_) H → va_D A (wD cI dA bA aA tA d_) → va_S A s.heap H locs → ∀ (ls : Array Slot), lv_has ls 5 [(0, .ref (dA 0)), (1, .long x1), (3, .int x3)] → wpX2_digest_b42 post n x1 x3 d_ → W p l e (zr 7 0 0) s m ([.ref (dA 0)] : List Value).toArray below meth c H locs 0 0 (MQ below (zQ D (fun u : Int64 × DS => some (Value.long u.1)) (fun u : Int64 × DS => post u.1 u.2) (fun u : Int64 × DS => wD cI dA bA aA tA u.2) A) ([.ref (dA 0)] : List Value).toArray s 0 0 A) (F0 m 42 ls []) := by
    intro n
    induction n with
    | zero =>
      intro x1 x3 d_ H locs hP hD hS ls hl h
      exact h.elim
    | succ n ih =>
      intro x1 x3 d_ H locs hP hD hS ls hl h
      rw [wpX2_digest_b42] at h
      refine lv_iload_n hx hb dX2_digest_42 rfl (lv_at hl 2 rfl) ?_
      refine lv_iconst (v := 5) hx hb dX2_digest_43 (by decide) ?_
      refine lv_icmp_gt (tgt := 66) hx hb dX2_digest_44 (by decide) (fun c44 => ?_) (fun c44 => ?_)
      · have h := h.1 c44
        refine lv_lload_n hx hb dX2_digest_66 rfl (lv_at hl 1 rfl) ?_
        refine lv_ldc2 hx hb hown (hts _ q266) dX2_digest_67 ?_
        refine lv_lmul hx hb dX2_digest_70 ?_
        refine lv_aload_n hx hb dX2_digest_71 rfl (lv_at hl 0 rfl) ?_
        refine z_RV (As := []) (rest := [.long (x1 * (31 : Int64))]) [0, 1, 2, 3, 4, 5, 6, 7, 8, 9, 10, 11, 12, 13, 14, 15, 16, 17, 18, 19, 20, 21] C (hG.kept hS.1 hS.2.1).none hP (c_X2_penalties hfl hs0 D cI cB cJ dA bA aA tA d_ h) q282 v_X2_penalties rfl rfl rfl rfl ⟨(Nat.le_of_ble_eq_true rfl), (Nat.le_of_ble_eq_true rfl)⟩ ⟨(Nat.le_of_ble_eq_true rfl), (Nat.le_of_ble_eq_true rfl)⟩ hl.1 rfl (lv_room (Nat.le_of_ble_eq_true rfl)) dX2_digest_72 (fun r72 h => ?_)
        refine lv_i2l hx hb dX2_digest_75 rfl ?_
        refine lv_ladd hx hb dX2_digest_76 ?_
        refine lv_lstore_n (lv' := [(1, .long ((x1 * (31 : Int64)) + r72.toInt64)), (0, .ref (dA 0)), (3, .int x3)]) hx hb dX2_digest_77 rfl hl (by decide) rfl (fun ls hl => ?_)
        refine lv_lload_n hx hb dX2_digest_78 rfl (lv_at hl 0 rfl) ?_
        refine lv_ldc2 hx hb hown (hts _ q266) dX2_digest_79 ?_
        refine lv_lmul hx hb dX2_digest_82 ?_
        refine lv_aload_n hx hb dX2_digest_83 rfl (lv_at hl 1 rfl) ?_
        refine z_RV (As := []) (rest := [.long (((x1 * (31 : Int64)) + r72.toInt64) * (31 : Int64))]) [0, 1, 2, 3, 4, 5, 6, 7, 8, 9, 10, 11, 12, 13, 14, 15, 16, 17, 18, 19, 20, 21] C (hG.kept hS.1 hS.2.1).none hP (c_X2_weakest hfl hs0 D cI cB cJ dA bA aA tA d_ h) q286 v_X2_weakest rfl rfl rfl rfl ⟨(Nat.le_of_ble_eq_true rfl), (Nat.le_of_ble_eq_true rfl)⟩ ⟨(Nat.le_of_ble_eq_true rfl), (Nat.le_of_ble_eq_true rfl)⟩ hl.1 rfl (lv_room (Nat.le_of_ble_eq_true rfl)) dX2_digest_84 (fun r84 h => ?_)
        refine lv_i2l hx hb dX2_digest_87 rfl ?_
        refine lv_ladd hx hb dX2_digest_88 ?_
        refine lv_lstore_n (lv' := [(1, .long ((((x1 * (31 : Int64)) + r72.toInt64) * (31 : Int64)) + r84.toInt64)), (0, .ref (dA 0)), (3, .int x3)]) hx hb dX2_digest_89 rfl hl (by decide) rfl (fun ls hl => ?_)
        refine lv_iconst (v := 0) hx hb dX2_digest_90 (by decide) ?_
        refine lv_istore_n (lv' := [(3, .int 0), (1, .long ((((x1 * (31 : Int64)) + r72.toInt64) * (31 : Int64)) + r84.toInt64)), (0, .ref (dA 0))]) hx hb dX2_digest_91 rfl hl (by decide) rfl (fun ls hl => ?_)
        refine W.widen (k := 0) (n := 0) (Nat.le_of_ble_eq_true rfl) (Nat.le_of_ble_eq_true rfl) ?_
        obtain ⟨n9, h⟩ := h
        exact k92 n9 ((((x1 * (31 : Int64)) + r72.toInt64) * (31 : Int64)) + r84.toInt64) 0 d_  _ _ hP hD hS _ (lv_sub hl [2, 1, 0] rfl) h
      · have h := h.2 c44
        refine lv_lload_n hx hb dX2_digest_47 rfl (lv_at hl 1 rfl) ?_
        refine lv_ldc2 hx hb hown (hts _ q266) dX2_digest_48 ?_
        refine lv_lmul hx hb dX2_digest_51 ?_
        refine lv_aload_n hx hb dX2_digest_52 rfl (lv_at hl 0 rfl) ?_
        refine lv_iload_n hx hb dX2_digest_53 rfl (lv_at hl 2 rfl) ?_
        refine z_RV (As := [.int x3]) (rest := [.long (x1 * (31 : Int64))]) [0, 1, 2, 3, 4, 5, 6, 7, 8, 9, 10, 11, 12, 13, 14, 15, 16, 17, 18, 19, 20, 21] C (hG.kept hS.1 hS.2.1).none hP (c_X2_inState hfl hs0 D cI cB cJ dA bA aA tA d_ x3 h) q338 v_X2_inState rfl rfl rfl rfl ⟨(Nat.le_of_ble_eq_true rfl), (Nat.le_of_ble_eq_true rfl)⟩ ⟨(Nat.le_of_ble_eq_true rfl), (Nat.le_of_ble_eq_true rfl)⟩ hl.1 rfl (lv_room (Nat.le_of_ble_eq_true rfl)) dX2_digest_54 (fun r54 h => ?_)
        refine lv_i2l hx hb dX2_digest_57 rfl ?_
        refine lv_ladd hx hb dX2_digest_58 ?_
        refine lv_lstore_n (lv' := [(1, .long ((x1 * (31 : Int64)) + r54.toInt64)), (0, .ref (dA 0)), (3, .int x3)]) hx hb dX2_digest_59 rfl hl (by decide) rfl (fun ls hl => ?_)
        refine lv_iinc (v := (x3 + 1)) (lv' := [(3, .int (x3 + 1)), (1, .long ((x1 * (31 : Int64)) + r54.toInt64)), (0, .ref (dA 0))]) hx hb dX2_digest_60 hl (k := 2) rfl (by first | rfl | decide) (by decide) rfl (fun ls hl => ?_)
        refine lv_goto (tgt := 42) hx hb dX2_digest_63 (by decide) ?_
        refine W.widen (k := 0) (n := 0) (Nat.le_of_ble_eq_true rfl) (Nat.le_of_ble_eq_true rfl) ?_
        exact ih ((x1 * (31 : Int64)) + r54.toInt64) (x3 + 1) d_  _ _ hP hD hS _ (lv_sub hl [2, 1, 0] rfl) h
  unfold wpX2_digest at h
  refine lv_ldc2 hx hb hown (hts _ q265) dX2_digest_0 ?_
  refine lv_lstore_n (lv' := [(1, .long (2269 : Int64)), (0, .ref (dA 0))]) hx hb dX2_digest_3 rfl hl (by decide) rfl (fun ls hl => ?_)
  refine lv_lload_n hx hb dX2_digest_4 rfl (lv_at hl 0 rfl) ?_
  refine lv_ldc2 hx hb hown (hts _ q266) dX2_digest_5 ?_
  refine lv_lmul hx hb dX2_digest_8 ?_
  refine lv_aload_n hx hb dX2_digest_9 rfl (lv_at hl 1 rfl) ?_
  refine z_RV (As := []) (rest := [.long ((2269 : Int64) * (31 : Int64))]) [0, 1, 2, 3, 4, 5, 6, 7, 8, 9, 10, 11, 12, 13, 14, 15, 16, 17, 18, 19, 20, 21] C (hG.kept hS.1 hS.2.1).none hP (c_X2_day hfl hs0 D cI cB cJ dA bA aA tA d h) q270 v_X2_day rfl rfl rfl rfl ⟨(Nat.le_of_ble_eq_true rfl), (Nat.le_of_ble_eq_true rfl)⟩ ⟨(Nat.le_of_ble_eq_true rfl), (Nat.le_of_ble_eq_true rfl)⟩ hl.1 rfl (lv_room (Nat.le_of_ble_eq_true rfl)) dX2_digest_10 (fun r10 h => ?_)
  refine lv_i2l hx hb dX2_digest_13 rfl ?_
  refine lv_ladd hx hb dX2_digest_14 ?_
  refine lv_lstore_n (lv' := [(1, .long (((2269 : Int64) * (31 : Int64)) + r10.toInt64)), (0, .ref (dA 0))]) hx hb dX2_digest_15 rfl hl (by decide) rfl (fun ls hl => ?_)
  refine lv_lload_n hx hb dX2_digest_16 rfl (lv_at hl 0 rfl) ?_
  refine lv_ldc2 hx hb hown (hts _ q266) dX2_digest_17 ?_
  refine lv_lmul hx hb dX2_digest_20 ?_
  refine lv_aload_n hx hb dX2_digest_21 rfl (lv_at hl 1 rfl) ?_
  refine z_RV (As := []) (rest := [.long ((((2269 : Int64) * (31 : Int64)) + r10.toInt64) * (31 : Int64))]) [0, 1, 2, 3, 4, 5, 6, 7, 8, 9, 10, 11, 12, 13, 14, 15, 16, 17, 18, 19, 20, 21] C (hG.kept hS.1 hS.2.1).none hP (c_X2_parties hfl hs0 D cI cB cJ dA bA aA tA d h) q274 v_X2_parties rfl rfl rfl rfl ⟨(Nat.le_of_ble_eq_true rfl), (Nat.le_of_ble_eq_true rfl)⟩ ⟨(Nat.le_of_ble_eq_true rfl), (Nat.le_of_ble_eq_true rfl)⟩ hl.1 rfl (lv_room (Nat.le_of_ble_eq_true rfl)) dX2_digest_22 (fun r22 h => ?_)
  refine lv_i2l hx hb dX2_digest_25 rfl ?_
  refine lv_ladd hx hb dX2_digest_26 ?_
  refine lv_lstore_n (lv' := [(1, .long (((((2269 : Int64) * (31 : Int64)) + r10.toInt64) * (31 : Int64)) + r22.toInt64)), (0, .ref (dA 0))]) hx hb dX2_digest_27 rfl hl (by decide) rfl (fun ls hl => ?_)
  refine lv_lload_n hx hb dX2_digest_28 rfl (lv_at hl 0 rfl) ?_
  refine lv_ldc2 hx hb hown (hts _ q266) dX2_digest_29 ?_
  refine lv_lmul hx hb dX2_digest_32 ?_
  refine lv_aload_n hx hb dX2_digest_33 rfl (lv_at hl 1 rfl) ?_
  refine z_RV (As := []) (rest := [.long ((((((2269 : Int64) * (31 : Int64)) + r10.toInt64) * (31 : Int64)) + r22.toInt64) * (31 : Int64))]) [0, 1, 2, 3, 4, 5, 6, 7, 8, 9, 10, 11, 12, 13, 14, 15, 16, 17, 18, 19, 20, 21] C (hG.kept hS.1 hS.2.1).none hP (c_X2_duties hfl hs0 D cI cB cJ dA bA aA tA d h) q278 v_X2_duties rfl rfl rfl rfl ⟨(Nat.le_of_ble_eq_true rfl), (Nat.le_of_ble_eq_true rfl)⟩ ⟨(Nat.le_of_ble_eq_true rfl), (Nat.le_of_ble_eq_true rfl)⟩ hl.1 rfl (lv_room (Nat.le_of_ble_eq_true rfl)) dX2_digest_34 (fun r34 h => ?_)
  refine lv_i2l hx hb dX2_digest_37 rfl ?_
  refine lv_ladd hx hb dX2_digest_38 ?_
  refine lv_lstore_n (lv' := [(1, .long (((((((2269 : Int64) * (31 : Int64)) + r10.toInt64) * (31 : Int64)) + r22.toInt64) * (31 : Int64)) + r34.toInt64)), (0, .ref (dA 0))]) hx hb dX2_digest_39 rfl hl (by decide) rfl (fun ls hl => ?_)
  refine lv_iconst (v := 0) hx hb dX2_digest_40 (by decide) ?_
  refine lv_istore_n (lv' := [(3, .int 0), (1, .long (((((((2269 : Int64) * (31 : Int64)) + r10.toInt64) * (31 : Int64)) + r22.toInt64) * (31 : Int64)) + r34.toInt64)), (0, .ref (dA 0))]) hx hb dX2_digest_41 rfl hl (by decide) rfl (fun ls hl => ?_)
  refine W.widen (k := 0) (n := 0) (Nat.le_of_ble_eq_true rfl) (Nat.le_of_ble_eq_true rfl) ?_
  obtain ⟨n9, h⟩ := h
  exact k42 n9 (((((((2269 : Int64) * (31 : Int64)) + r10.toInt64) * (31 : Int64)) + r22.toInt64) * (31 : Int64)) + r34.toInt64) 0 d  _ _ hP hD hS _ (lv_sub hl [2, 1, 0] rfl) h

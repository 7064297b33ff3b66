/-! THE JDK: StringBuilder -/
theorem q375 : (Jvm.Cond.fieldLink "java/lang/Integer" (83 : Nat) "java/lang/Integer" "DigitOnes" "[B") ∈ lw_all := mt3 41 (by decide +kernel) (by decide +kernel)
theorem q376 : (Jvm.Cond.fieldLink "java/lang/Integer" (87 : Nat) "java/lang/Integer" "DigitTens" "[B") ∈ lw_all := mt3 43 (by decide +kernel) (by decide +kernel)
theorem q377 : (Jvm.Cond.fieldLink "java/lang/AbstractStringBuilder" (79 : Nat) "java/lang/AbstractStringBuilder" "count" "I") ∈ lw_all := mt2 222 (by decide +kernel) (by decide +kernel)
theorem q378 : (Jvm.Cond.methodLink "java/lang/AbstractStringBuilder" (245 : Nat) ({ cls := "java/lang/Integer", name := "stringSize", desc := "(I)I" } : Jvm.MethodName)) ∈ lw_all := mt2 239 (by decide +kernel) (by decide +kernel)
theorem q379 : (Jvm.Cond.methodLink "java/lang/AbstractStringBuilder" (100 : Nat) ({ cls := "java/lang/AbstractStringBuilder", name := "ensureCapacityInternal", desc := "(I)V" } : Jvm.MethodName)) ∈ lw_all := mt3 2 (by decide +kernel) (by decide +kernel)
theorem q380 : (Jvm.Cond.methodLink "java/lang/AbstractStringBuilder" (83 : Nat) ({ cls := "java/lang/AbstractStringBuilder", name := "isLatin1", desc := "()Z" } : Jvm.MethodName)) ∈ lw_all := mt3 33 (by decide +kernel) (by decide +kernel)
theorem q381 : (Jvm.Cond.methodLink "java/lang/AbstractStringBuilder" (248 : Nat) ({ cls := "java/lang/Integer", name := "getChars", desc := "(II[B)I" } : Jvm.MethodName)) ∈ lw_all := mt3 38 (by decide +kernel) (by decide +kernel)
theorem q382 : (Jvm.Cond.initialized "java/lang/Integer") ∈ lw_all := mt1 15 (by decide +kernel) (by decide +kernel)
theorem q383 : (Jvm.Cond.code ({ cls := "java/lang/Integer", name := "getChars", desc := "(II[B)I" } : Jvm.MethodName) prog_13_method_12_code (7 : Nat) (Option.some Jvm.ClassFile.FieldType.int)) ∈ lw_all := mt3 40 (by decide +kernel) (by decide +kernel)
theorem q384 : (Jvm.Cond.static ({ cls := "java/lang/Integer", name := "getChars", desc := "(II[B)I" } : Jvm.MethodName)) ∈ lw_all := mt3 39 (by decide +kernel) (by decide +kernel)
theorem q385 : (Jvm.Cond.instanceMethod ({ cls := "java/lang/AbstractStringBuilder", name := "isLatin1", desc := "()Z" } : Jvm.MethodName)) ∈ lw_all := mt3 34 (by decide +kernel) (by decide +kernel)
theorem q386 : (Jvm.Cond.sameMethod "java/lang/AbstractStringBuilder" "java/lang/AbstractStringBuilder" "isLatin1" "()Z") ∈ lw_all := mt3 35 (by decide +kernel) (by decide +kernel)
theorem q387 : (Jvm.Cond.code ({ cls := "java/lang/AbstractStringBuilder", name := "isLatin1", desc := "()Z" } : Jvm.MethodName) prog_6_method_68_code (1 : Nat) (Option.some Jvm.ClassFile.FieldType.boolean)) ∈ lw_all := mt3 37 (by decide +kernel) (by decide +kernel)
theorem q388 : (Jvm.Cond.selects "java/lang/StringBuilder" ({ cls := "java/lang/AbstractStringBuilder", name := "isLatin1", desc := "()Z" } : Jvm.MethodName) ({ cls := "java/lang/AbstractStringBuilder", name := "isLatin1", desc := "()Z" } : Jvm.MethodName)) ∈ lw_all := mt3 36 (by decide +kernel) (by decide +kernel)
theorem q389 : (Jvm.Cond.instanceMethod ({ cls := "java/lang/AbstractStringBuilder", name := "ensureCapacityInternal", desc := "(I)V" } : Jvm.MethodName)) ∈ lw_all := mt3 4 (by decide +kernel) (by decide +kernel)
theorem q390 : (Jvm.Cond.sameMethod "java/lang/AbstractStringBuilder" "java/lang/AbstractStringBuilder" "ensureCapacityInternal" "(I)V") ∈ lw_all := mt6 8 (by decide +kernel) (by decide +kernel)
theorem q391 : (Jvm.Cond.code ({ cls := "java/lang/AbstractStringBuilder", name := "ensureCapacityInternal", desc := "(I)V" } : Jvm.MethodName) prog_6_method_9_code (3 : Nat) (Option.none : Option Jvm.ClassFile.FieldType)) ∈ lw_all := mt3 5 (by decide +kernel) (by decide +kernel)
theorem q392 : (Cond.selects "java/lang/StringBuilder" (⟨"java/lang/AbstractStringBuilder", "ensureCapacityInternal", "(I)V"⟩ : MethodName) (⟨"java/lang/AbstractStringBuilder", "ensureCapacityInternal", "(I)V"⟩ : MethodName)) ∈ lw_all := mt7 1 (by decide +kernel) (by decide +kernel)
theorem q393 : (Jvm.Cond.code ({ cls := "java/lang/Integer", name := "stringSize", desc := "(I)I" } : Jvm.MethodName) prog_13_method_13_code (4 : Nat) (Option.some Jvm.ClassFile.FieldType.int)) ∈ lw_all := mt3 1 (by decide +kernel) (by decide +kernel)
theorem q394 : (Jvm.Cond.static ({ cls := "java/lang/Integer", name := "stringSize", desc := "(I)I" } : Jvm.MethodName)) ∈ lw_all := mt3 0 (by decide +kernel) (by decide +kernel)
theorem q395 : (Jvm.Cond.methodLink "java/lang/StringBuilder" (53 : Nat) ({ cls := "java/lang/AbstractStringBuilder", name := "append", desc := "(I)Ljava/lang/AbstractStringBuilder;" } : Jvm.MethodName)) ∈ lw_all := mt2 236 (by decide +kernel) (by decide +kernel)
theorem q396 : (Jvm.Cond.instanceMethod ({ cls := "java/lang/AbstractStringBuilder", name := "append", desc := "(I)Ljava/lang/AbstractStringBuilder;" } : Jvm.MethodName)) ∈ lw_all := mt2 237 (by decide +kernel) (by decide +kernel)
theorem q397 : (Jvm.Cond.sameMethod "java/lang/AbstractStringBuilder" "java/lang/AbstractStringBuilder" "append" "(I)Ljava/lang/AbstractStringBuilder;") ∈ lw_all := mt6 7 (by decide +kernel) (by decide +kernel)
theorem q398 : (Jvm.Cond.code ({ cls := "java/lang/AbstractStringBuilder", name := "append", desc := "(I)Ljava/lang/AbstractStringBuilder;" } : Jvm.MethodName) prog_6_method_32_code (4 : Nat) (Option.some (Jvm.ClassFile.FieldType.object "java/lang/AbstractStringBuilder"))) ∈ lw_all := mt2 238 (by decide +kernel) (by decide +kernel)
theorem q399 : (Jvm.Cond.superclass "java/lang/StringBuilder" "java/lang/AbstractStringBuilder") ∈ lw_all := mt2 231 (by decide +kernel) (by decide +kernel)
theorem q400 : (Jvm.Cond.methodLink "java/lang/AbstractStringBuilder" (191 : Nat) ({ cls := "java/lang/StringLatin1", name := "canEncode", desc := "(C)Z" } : Jvm.MethodName)) ∈ lw_all := mt3 143 (by decide +kernel) (by decide +kernel)
theorem q401 : (Jvm.Cond.initialized "java/lang/StringLatin1") ∈ lw_all := mt1 21 (by decide +kernel) (by decide +kernel)
theorem q402 : (Jvm.Cond.code ({ cls := "java/lang/StringLatin1", name := "canEncode", desc := "(C)Z" } : Jvm.MethodName) prog_19_method_3_code (1 : Nat) (Option.some Jvm.ClassFile.FieldType.boolean)) ∈ lw_all := mt3 145 (by decide +kernel) (by decide +kernel)
theorem q403 : (Jvm.Cond.static ({ cls := "java/lang/StringLatin1", name := "canEncode", desc := "(C)Z" } : Jvm.MethodName)) ∈ lw_all := mt3 144 (by decide +kernel) (by decide +kernel)
theorem q404 : (Jvm.Cond.methodLink "java/lang/StringBuilder" (50 : Nat) ({ cls := "java/lang/AbstractStringBuilder", name := "append", desc := "(C)Ljava/lang/AbstractStringBuilder;" } : Jvm.MethodName)) ∈ lw_all := mt3 140 (by decide +kernel) (by decide +kernel)
theorem q405 : (Jvm.Cond.instanceMethod ({ cls := "java/lang/AbstractStringBuilder", name := "append", desc := "(C)Ljava/lang/AbstractStringBuilder;" } : Jvm.MethodName)) ∈ lw_all := mt3 141 (by decide +kernel) (by decide +kernel)
theorem q406 : (Jvm.Cond.sameMethod "java/lang/AbstractStringBuilder" "java/lang/AbstractStringBuilder" "append" "(C)Ljava/lang/AbstractStringBuilder;") ∈ lw_all := mt6 15 (by decide +kernel) (by decide +kernel)
theorem q407 : (Jvm.Cond.code ({ cls := "java/lang/AbstractStringBuilder", name := "append", desc := "(C)Ljava/lang/AbstractStringBuilder;" } : Jvm.MethodName) prog_6_method_31_code (2 : Nat) (Option.some (Jvm.ClassFile.FieldType.object "java/lang/AbstractStringBuilder"))) ∈ lw_all := mt3 142 (by decide +kernel) (by decide +kernel)
theorem q408 : (Jvm.Cond.fieldLink "java/lang/String" (38 : Nat) "java/lang/String" "COMPACT_STRINGS" "Z") ∈ lw_all := mt3 99 (by decide +kernel) (by decide +kernel)
theorem q409 : (Jvm.Cond.fieldLink "java/lang/String" (15 : Nat) "java/lang/String" "coder" "B") ∈ lw_all := mt5 105 (by decide +kernel) (by decide +kernel)
theorem q410 : (Jvm.Cond.fieldLink "java/lang/String" (9 : Nat) "java/lang/String" "value" "[B") ∈ lw_all := mt5 104 (by decide +kernel) (by decide +kernel)
theorem q411 : (Jvm.Cond.methodLink "java/lang/String" (335 : Nat) ({ cls := "java/lang/String", name := "coder", desc := "()B" } : Jvm.MethodName)) ∈ lw_all := mt3 95 (by decide +kernel) (by decide +kernel)
theorem q412 : (Jvm.Cond.initialized "java/lang/String") ∈ lw_all := mt1 7 (by decide +kernel) (by decide +kernel)
theorem q413 : (Jvm.Cond.code ({ cls := "java/lang/String", name := "coder", desc := "()B" } : Jvm.MethodName) prog_16_method_152_code (1 : Nat) (Option.some Jvm.ClassFile.FieldType.byte)) ∈ lw_all := mt3 98 (by decide +kernel) (by decide +kernel)
theorem q414 : (Jvm.Cond.instanceMethod ({ cls := "java/lang/String", name := "coder", desc := "()B" } : Jvm.MethodName)) ∈ lw_all := mt3 96 (by decide +kernel) (by decide +kernel)
theorem q415 : (Jvm.Cond.selects "java/lang/String" ({ cls := "java/lang/String", name := "coder", desc := "()B" } : Jvm.MethodName) ({ cls := "java/lang/String", name := "coder", desc := "()B" } : Jvm.MethodName)) ∈ lw_all := mt3 97 (by decide +kernel) (by decide +kernel)
theorem q416 : (Jvm.Cond.methodLink "java/lang/AbstractStringBuilder" (40 : Nat) ({ cls := "java/lang/String", name := "coder", desc := "()B" } : Jvm.MethodName)) ∈ lw_all := mt3 108 (by decide +kernel) (by decide +kernel)
theorem q417 : (Jvm.Cond.methodLink "java/lang/String" (212 : Nat) ({ cls := "java/lang/System", name := "arraycopy", desc := "(Ljava/lang/Object;ILjava/lang/Object;II)V" } : Jvm.MethodName)) ∈ lw_all := mt3 132 (by decide +kernel) (by decide +kernel)
theorem q418 : (Jvm.Cond.methodLink "java/lang/AbstractStringBuilder" (397 : Nat) ({ cls := "java/lang/AbstractStringBuilder", name := "inflateIfNeededFor", desc := "(Ljava/lang/String;)V" } : Jvm.MethodName)) ∈ lw_all := mt3 104 (by decide +kernel) (by decide +kernel)
theorem q419 : (Jvm.Cond.methodLink "java/lang/AbstractStringBuilder" (399 : Nat) ({ cls := "java/lang/String", name := "getBytes", desc := "([BIB)V" } : Jvm.MethodName)) ∈ lw_all := mt3 128 (by decide +kernel) (by decide +kernel)
theorem q420 : (Jvm.Cond.code ({ cls := "java/lang/String", name := "getBytes", desc := "([BIB)V" } : Jvm.MethodName) prog_16_method_147_code (4 : Nat) (Option.none : Option Jvm.ClassFile.FieldType)) ∈ lw_all := mt3 131 (by decide +kernel) (by decide +kernel)
theorem q421 : (Jvm.Cond.instanceMethod ({ cls := "java/lang/String", name := "getBytes", desc := "([BIB)V" } : Jvm.MethodName)) ∈ lw_all := mt3 129 (by decide +kernel) (by decide +kernel)
theorem q422 : (Jvm.Cond.selects "java/lang/String" ({ cls := "java/lang/String", name := "getBytes", desc := "([BIB)V" } : Jvm.MethodName) ({ cls := "java/lang/String", name := "getBytes", desc := "([BIB)V" } : Jvm.MethodName)) ∈ lw_all := mt3 130 (by decide +kernel) (by decide +kernel)
theorem q423 : (Jvm.Cond.instanceMethod ({ cls := "java/lang/AbstractStringBuilder", name := "inflateIfNeededFor", desc := "(Ljava/lang/String;)V" } : Jvm.MethodName)) ∈ lw_all := mt3 106 (by decide +kernel) (by decide +kernel)
theorem q424 : (Jvm.Cond.sameMethod "java/lang/AbstractStringBuilder" "java/lang/AbstractStringBuilder" "inflateIfNeededFor" "(Ljava/lang/String;)V") ∈ lw_all := mt6 13 (by decide +kernel) (by decide +kernel)
theorem q425 : (Jvm.Cond.code ({ cls := "java/lang/AbstractStringBuilder", name := "inflateIfNeededFor", desc := "(Ljava/lang/String;)V" } : Jvm.MethodName) prog_6_method_71_code (2 : Nat) (Option.none : Option Jvm.ClassFile.FieldType)) ∈ lw_all := mt3 107 (by decide +kernel) (by decide +kernel)
theorem q426 : (Cond.selects "java/lang/StringBuilder" (⟨"java/lang/AbstractStringBuilder", "inflateIfNeededFor", "(Ljava/lang/String;)V"⟩ : MethodName) (⟨"java/lang/AbstractStringBuilder", "inflateIfNeededFor", "(Ljava/lang/String;)V"⟩ : MethodName)) ∈ lw_all := mt7 3 (by decide +kernel) (by decide +kernel)
theorem q427 : (Jvm.Cond.methodLink "java/lang/AbstractStringBuilder" (32 : Nat) ({ cls := "java/lang/String", name := "length", desc := "()I" } : Jvm.MethodName)) ∈ lw_all := mt3 91 (by decide +kernel) (by decide +kernel)
theorem q428 : (Jvm.Cond.methodLink "java/lang/AbstractStringBuilder" (208 : Nat) ({ cls := "java/lang/AbstractStringBuilder", name := "putStringAt", desc := "(ILjava/lang/String;)V" } : Jvm.MethodName)) ∈ lw_all := mt3 100 (by decide +kernel) (by decide +kernel)
theorem q429 : (Jvm.Cond.instanceMethod ({ cls := "java/lang/AbstractStringBuilder", name := "putStringAt", desc := "(ILjava/lang/String;)V" } : Jvm.MethodName)) ∈ lw_all := mt3 102 (by decide +kernel) (by decide +kernel)
theorem q430 : (Jvm.Cond.sameMethod "java/lang/AbstractStringBuilder" "java/lang/AbstractStringBuilder" "putStringAt" "(ILjava/lang/String;)V") ∈ lw_all := mt6 12 (by decide +kernel) (by decide +kernel)
theorem q431 : (Jvm.Cond.code ({ cls := "java/lang/AbstractStringBuilder", name := "putStringAt", desc := "(ILjava/lang/String;)V" } : Jvm.MethodName) prog_6_method_73_code (3 : Nat) (Option.none : Option Jvm.ClassFile.FieldType)) ∈ lw_all := mt3 103 (by decide +kernel) (by decide +kernel)
theorem q432 : (Cond.selects "java/lang/StringBuilder" (⟨"java/lang/AbstractStringBuilder", "putStringAt", "(ILjava/lang/String;)V"⟩ : MethodName) (⟨"java/lang/AbstractStringBuilder", "putStringAt", "(ILjava/lang/String;)V"⟩ : MethodName)) ∈ lw_all := mt7 2 (by decide +kernel) (by decide +kernel)
theorem q433 : (Jvm.Cond.code ({ cls := "java/lang/String", name := "length", desc := "()I" } : Jvm.MethodName) prog_16_method_54_code (1 : Nat) (Option.some Jvm.ClassFile.FieldType.int)) ∈ lw_all := mt3 94 (by decide +kernel) (by decide +kernel)
theorem q434 : (Jvm.Cond.instanceMethod ({ cls := "java/lang/String", name := "length", desc := "()I" } : Jvm.MethodName)) ∈ lw_all := mt3 92 (by decide +kernel) (by decide +kernel)
theorem q435 : (Jvm.Cond.selects "java/lang/String" ({ cls := "java/lang/String", name := "length", desc := "()I" } : Jvm.MethodName) ({ cls := "java/lang/String", name := "length", desc := "()I" } : Jvm.MethodName)) ∈ lw_all := mt3 93 (by decide +kernel) (by decide +kernel)
theorem q436 : (Jvm.Cond.methodLink "java/lang/StringBuilder" (29 : Nat) ({ cls := "java/lang/AbstractStringBuilder", name := "append", desc := "(Ljava/lang/String;)Ljava/lang/AbstractStringBuilder;" } : Jvm.MethodName)) ∈ lw_all := mt3 81 (by decide +kernel) (by decide +kernel)
theorem q437 : (Jvm.Cond.instanceMethod ({ cls := "java/lang/AbstractStringBuilder", name := "append", desc := "(Ljava/lang/String;)Ljava/lang/AbstractStringBuilder;" } : Jvm.MethodName)) ∈ lw_all := mt3 82 (by decide +kernel) (by decide +kernel)
theorem q438 : (Jvm.Cond.sameMethod "java/lang/AbstractStringBuilder" "java/lang/AbstractStringBuilder" "append" "(Ljava/lang/String;)Ljava/lang/AbstractStringBuilder;") ∈ lw_all := mt6 10 (by decide +kernel) (by decide +kernel)
theorem q439 : (Jvm.Cond.code ({ cls := "java/lang/AbstractStringBuilder", name := "append", desc := "(Ljava/lang/String;)Ljava/lang/AbstractStringBuilder;" } : Jvm.MethodName) prog_6_method_22_code (3 : Nat) (Option.some (Jvm.ClassFile.FieldType.object "java/lang/AbstractStringBuilder"))) ∈ lw_all := mt3 83 (by decide +kernel) (by decide +kernel)
theorem q440 : (Jvm.Cond.methodLink "java/lang/StringBuilder" (343 : Nat) ({ cls := "java/lang/AbstractStringBuilder", name := "length", desc := "()I" } : Jvm.MethodName)) ∈ lw_all := mt3 162 (by decide +kernel) (by decide +kernel)
theorem q441 : (Jvm.Cond.instanceMethod ({ cls := "java/lang/AbstractStringBuilder", name := "length", desc := "()I" } : Jvm.MethodName)) ∈ lw_all := mt3 163 (by decide +kernel) (by decide +kernel)
theorem q442 : (Jvm.Cond.sameMethod "java/lang/AbstractStringBuilder" "java/lang/AbstractStringBuilder" "length" "()I") ∈ lw_all := mt6 16 (by decide +kernel) (by decide +kernel)
theorem q443 : (Jvm.Cond.code ({ cls := "java/lang/AbstractStringBuilder", name := "length", desc := "()I" } : Jvm.MethodName) prog_6_method_6_code (1 : Nat) (Option.some Jvm.ClassFile.FieldType.int)) ∈ lw_all := mt3 164 (by decide +kernel) (by decide +kernel)
theorem q444 : (Jvm.Cond.methodLink "java/lang/AbstractStringBuilder" (144 : Nat) ({ cls := "java/lang/String", name := "checkIndex", desc := "(II)V" } : Jvm.MethodName)) ∈ lw_all := mt3 176 (by decide +kernel) (by decide +kernel)
theorem q445 : (Jvm.Cond.code ({ cls := "java/lang/String", name := "checkIndex", desc := "(II)V" } : Jvm.MethodName) prog_16_method_155_code (2 : Nat) (Option.none : Option Jvm.ClassFile.FieldType)) ∈ lw_all := mt3 154 (by decide +kernel) (by decide +kernel)
theorem q446 : (Jvm.Cond.static ({ cls := "java/lang/String", name := "checkIndex", desc := "(II)V" } : Jvm.MethodName)) ∈ lw_all := mt3 153 (by decide +kernel) (by decide +kernel)
theorem q447 : (Jvm.Cond.methodLink "java/lang/AbstractStringBuilder" (138 : Nat) ({ cls := "java/lang/Math", name := "min", desc := "(II)I" } : Jvm.MethodName)) ∈ lw_all := mt3 175 (by decide +kernel) (by decide +kernel)
theorem q448 : (Jvm.Cond.methodLink "java/lang/StringBuilder" (329 : Nat) ({ cls := "java/lang/AbstractStringBuilder", name := "charAt", desc := "(I)C" } : Jvm.MethodName)) ∈ lw_all := mt3 172 (by decide +kernel) (by decide +kernel)
theorem q449 : (Jvm.Cond.instanceMethod ({ cls := "java/lang/AbstractStringBuilder", name := "charAt", desc := "(I)C" } : Jvm.MethodName)) ∈ lw_all := mt3 173 (by decide +kernel) (by decide +kernel)
theorem q450 : (Jvm.Cond.sameMethod "java/lang/AbstractStringBuilder" "java/lang/AbstractStringBuilder" "charAt" "(I)C") ∈ lw_all := mt6 17 (by decide +kernel) (by decide +kernel)
theorem q451 : (Jvm.Cond.code ({ cls := "java/lang/AbstractStringBuilder", name := "charAt", desc := "(I)C" } : Jvm.MethodName) prog_6_method_14_code (5 : Nat) (Option.some Jvm.ClassFile.FieldType.char)) ∈ lw_all := mt3 174 (by decide +kernel) (by decide +kernel)
theorem q452 : (Jvm.Cond.fieldLink "java/lang/AbstractStringBuilder" (73 : Nat) "java/lang/AbstractStringBuilder" "maybeLatin1" "Z") ∈ lw_all := mt2 220 (by decide +kernel) (by decide +kernel)
theorem q453 : (Jvm.Cond.methodLink "java/lang/StringBuilder" (333 : Nat) ({ cls := "java/lang/AbstractStringBuilder", name := "setLength", desc := "(I)V" } : Jvm.MethodName)) ∈ lw_all := mt5 43 (by decide +kernel) (by decide +kernel)
theorem q454 : (Jvm.Cond.instanceMethod ({ cls := "java/lang/AbstractStringBuilder", name := "setLength", desc := "(I)V" } : Jvm.MethodName)) ∈ lw_all := mt5 44 (by decide +kernel) (by decide +kernel)
theorem q455 : (Jvm.Cond.sameMethod "java/lang/AbstractStringBuilder" "java/lang/AbstractStringBuilder" "setLength" "(I)V") ∈ lw_all := mt6 18 (by decide +kernel) (by decide +kernel)
theorem q456 : (Jvm.Cond.code ({ cls := "java/lang/AbstractStringBuilder", name := "setLength", desc := "(I)V" } : Jvm.MethodName) prog_6_method_13_code (2 : Nat) (Option.none : Option Jvm.ClassFile.FieldType)) ∈ lw_all := mt5 45 (by decide +kernel) (by decide +kernel)
theorem f_J5_79 : zF RJ5 "java/lang/AbstractStringBuilder" 79 1 3 4 RJ4 TJ4 := ⟨in_J4, rfl, by decide, q377, rfl⟩
theorem f_J5_73 : zF RJ5 "java/lang/AbstractStringBuilder" 73 1 2 4 RJ4 TJ4 := ⟨in_J4, rfl, by decide, q452, rfl⟩
theorem v_J6_getChars_ba4f3 : zSt yJ6_getChars_ba4f3 cJ6_getChars_ba4f3 7 (some .int) 3 := ⟨q384, q382, q383, by decide +kernel, by decide +kernel, by decide +kernel⟩
theorem u_J5_isLatin1_aae02 : zU yJ5_isLatin1_aae02 cJ5_isLatin1_aae02 1 (some .boolean) 0 := ⟨q385, q386, q372, q387, by decide +kernel, by decide +kernel, by decide +kernel⟩
theorem u_J5_ensureCapacityInternal_d00df : zU yJ5_ensureCapacityInternal_d00df cJ5_ensureCapacityInternal_d00df 3 none 1 := ⟨q389, q390, q372, q391, by decide +kernel, by decide +kernel, by decide +kernel⟩
theorem v_J6_stringSize_0f7a4 : zSt yJ6_stringSize_0f7a4 cJ6_stringSize_0f7a4 4 (some .int) 1 := ⟨q394, q382, q393, by decide +kernel, by decide +kernel, by decide +kernel⟩
theorem u_J5_append_c97b9 : zU yJ5_append_c97b9 cJ5_append_c97b9 4 (some (.object "java/lang/AbstractStringBuilder")) 1 := ⟨q396, q397, q372, q398, by decide +kernel, by decide +kernel, by decide +kernel⟩
theorem v_J1_canEncode_fc78d : zSt yJ1_canEncode_fc78d cJ1_canEncode_fc78d 1 (some .boolean) 1 := ⟨q403, q401, q402, by decide +kernel, by decide +kernel, by decide +kernel⟩
theorem u_J5_append_3fe6f : zU yJ5_append_3fe6f cJ5_append_3fe6f 2 (some (.object "java/lang/AbstractStringBuilder")) 1 := ⟨q405, q406, q372, q407, by decide +kernel, by decide +kernel, by decide +kernel⟩
theorem v_J0_coder_7d493 : zV yJ0_coder_7d493 cJ0_coder_7d493 1 (some .byte) 0 := ⟨q414, q415, q412, q413, by decide +kernel, by decide +kernel, by decide +kernel⟩
theorem v_J0_getBytes_840e7 : zV yJ0_getBytes_840e7 cJ0_getBytes_840e7 4 none 3 := ⟨q421, q422, q412, q420, by decide +kernel, by decide +kernel, by decide +kernel⟩
theorem u_J5_inflateIfNeededFor_a7421 : zU yJ5_inflateIfNeededFor_a7421 cJ5_inflateIfNeededFor_a7421 2 none 1 := ⟨q423, q424, q372, q425, by decide +kernel, by decide +kernel, by decide +kernel⟩
theorem u_J5_putStringAt_47b60 : zU yJ5_putStringAt_47b60 cJ5_putStringAt_47b60 3 none 2 := ⟨q429, q430, q372, q431, by decide +kernel, by decide +kernel, by decide +kernel⟩
theorem v_J0_length_8abf5 : zV yJ0_length_8abf5 cJ0_length_8abf5 1 (some .int) 0 := ⟨q434, q435, q412, q433, by decide +kernel, by decide +kernel, by decide +kernel⟩
theorem u_J5_append_cf1ce : zU yJ5_append_cf1ce cJ5_append_cf1ce 3 (some (.object "java/lang/AbstractStringBuilder")) 1 := ⟨q437, q438, q372, q439, by decide +kernel, by decide +kernel, by decide +kernel⟩
theorem u_J5_length_8abf5 : zU yJ5_length_8abf5 cJ5_length_8abf5 1 (some .int) 0 := ⟨q441, q442, q372, q443, by decide +kernel, by decide +kernel, by decide +kernel⟩
theorem v_J0_checkIndex_df160 : zSt yJ0_checkIndex_df160 cJ0_checkIndex_df160 2 none 2 := ⟨q446, q412, q445, by decide +kernel, by decide +kernel, by decide +kernel⟩
theorem u_J5_charAt_5068e : zU yJ5_charAt_5068e cJ5_charAt_5068e 5 (some .char) 1 := ⟨q449, q450, q372, q451, by decide +kernel, by decide +kernel, by decide +kernel⟩
theorem u_J5_setLength_d00df : zU yJ5_setLength_d00df cJ5_setLength_d00df 2 none 1 := ⟨q454, q455, q372, q456, by decide +kernel, by decide +kernel, by decide +kernel⟩
def wpJ6_stringSize_0f7a4_b16 (post : Int32 → Prop) : Nat → Int32 → Int32 → Int32 → Int32 → Prop
  | 0, _, _, _, _ => False
  | n + 1, x0, x1, x2, x3 => (10 ≤ x3 → post (10 + x1)) ∧ (¬ 10 ≤ x3 → (x0 ≤ x2 → wpJ6_stringSize_0f7a4_b16 post n x0 x1 (10 * x2) (x3 + 1)) ∧ (¬ x0 ≤ x2 → post (x3 + x1)))
def wpJ6_stringSize_0f7a4_b11 (post : Int32 → Prop) (x0 : Int32) (x1 : Int32) : Prop := ∃ n16 : Nat, wpJ6_stringSize_0f7a4_b16 post n16 x0 x1 (-10) 1
def wpJ6_stringSize_0f7a4 (post : Int32 → Prop) (p0 : Int32) : Prop := (p0 < 0 → wpJ6_stringSize_0f7a4_b11 post p0 1) ∧ (¬ p0 < 0 → wpJ6_stringSize_0f7a4_b11 post (-p0) 0)
set_option maxHeartbeats 4000000 in
set_option maxRecDepth 100000 in
theorem c_J6_stringSize_0f7a4 {l : Launch} (hfl : l.stackTraces = false) {s0 : State} (hs0 : zS s0) (D : va_G) (cI cB cJ : ClassId) (p0 : Int32) {post : Int32 → Prop} (h : wpJ6_stringSize_0f7a4 post p0) : zR s0 l D (zty cI cB cJ) yJ6_stringSize_0f7a4 cJ6_stringSize_0f7a4 4 (some .int) 1 [.int p0] ([]) (fun u : Int32 => some (Value.int u)) (fun u : Int32 => post u) := by
  refine zR_intro (by decide +kernel) (Nat.le_of_ble_eq_true rfl) ?_
  intro p e s m below meth c C hP hG ls hl
  have C : zC D (zty cI cB cJ) p s m ([.int p0] : List Value).toArray meth c cJ6_stringSize_0f7a4 RJ6 (some .int) 4 := C
  have hx := C.1
  have hb := C.2.1
  have hts := C.2.2.1
  have hown := C.2.2.2.1
  have hml := C.2.2.2.2.2.1
  have hK := C.2.2.2.2.2.2.2
  have hl : lv_has ls 4 [(0, .int p0)] := hl
  have k16 : ∀ (n : Nat) (x0 : Int32) (x1 : Int32) (x2 : Int32) (x3 : Int32) (ls : Array Slot), lv_has ls 4 [(0, .int x0), (1, .int x1), (2, .int x2), (3, .int x3)] → wpJ6_stringSize_0f7a4_b16 post n x0 x1 x2 x3 → W p l e (zr 1 0 0) s m ([.int p0] : List Value).toArray below meth c s.heap [] 0 0 (MQ below (zQr (fun u : Int32 => some (Value.int u)) (fun u : Int32 => post u)) ([.int p0] : List Value).toArray s 0 0 (fun _ => False)) (F0 m 16 ls []) := by
    intro n
    induction n with
    | zero =>
      intro x0 x1 x2 x3 ls hl h
      exact h.elim
    | succ n ih =>
      intro x0 x1 x2 x3 ls hl h
      rw [wpJ6_stringSize_0f7a4_b16] at h
      refine lv_iload_n hx hb dJ6_stringSize_0f7a4_16 rfl (lv_at hl 3 rfl) ?_
      refine lv_bipush (v := 10) hx hb dJ6_stringSize_0f7a4_17 (by decide) ?_
      refine lv_icmp_ge (tgt := 42) hx hb dJ6_stringSize_0f7a4_19 (by decide) (fun c19 => ?_) (fun c19 => ?_)
      · have h := h.1 c19
        refine lv_bipush (v := 10) hx hb dJ6_stringSize_0f7a4_42 (by decide) ?_
        refine lv_iload_n hx hb dJ6_stringSize_0f7a4_44 rfl (lv_at hl 1 rfl) ?_
        refine lv_iadd hx hb dJ6_stringSize_0f7a4_45 ?_
        exact zR_iret C (10 + x1) rfl h dJ6_stringSize_0f7a4_46
      · have h := h.2 c19
        refine lv_iload_n hx hb dJ6_stringSize_0f7a4_22 rfl (lv_at hl 0 rfl) ?_
        refine lv_iload_n hx hb dJ6_stringSize_0f7a4_23 rfl (lv_at hl 2 rfl) ?_
        refine lv_icmp_le (tgt := 31) hx hb dJ6_stringSize_0f7a4_24 (by decide) (fun c24 => ?_) (fun c24 => ?_)
        · have h := h.1 c24
          refine lv_bipush (v := 10) hx hb dJ6_stringSize_0f7a4_31 (by decide) ?_
          refine lv_iload_n hx hb dJ6_stringSize_0f7a4_33 rfl (lv_at hl 2 rfl) ?_
          refine lv_imul hx hb dJ6_stringSize_0f7a4_34 ?_
          refine lv_istore_n (lv' := [(2, .int (10 * x2)), (0, .int x0), (1, .int x1), (3, .int x3)]) hx hb dJ6_stringSize_0f7a4_35 rfl hl (by decide) rfl (fun ls hl => ?_)
          refine lv_iinc (v := (x3 + 1)) (lv' := [(3, .int (x3 + 1)), (2, .int (10 * x2)), (0, .int x0), (1, .int x1)]) hx hb dJ6_stringSize_0f7a4_36 hl (k := 3) rfl (by first | rfl | decide) (by decide) rfl (fun ls hl => ?_)
          refine lv_goto (tgt := 16) hx hb dJ6_stringSize_0f7a4_39 (by decide) ?_
          exact ih x0 x1 (10 * x2) (x3 + 1)  _ (lv_sub hl [2, 3, 1, 0] rfl) h
        · have h := h.2 c24
          refine lv_iload_n hx hb dJ6_stringSize_0f7a4_27 rfl (lv_at hl 3 rfl) ?_
          refine lv_iload_n hx hb dJ6_stringSize_0f7a4_28 rfl (lv_at hl 1 rfl) ?_
          refine lv_iadd hx hb dJ6_stringSize_0f7a4_29 ?_
          exact zR_iret C (x3 + x1) rfl h dJ6_stringSize_0f7a4_30
  have k11 : ∀ (x0 : Int32) (x1 : Int32) (ls : Array Slot), lv_has ls 4 [(0, .int x0), (1, .int x1)] → wpJ6_stringSize_0f7a4_b11 post x0 x1 → W p l e (zr 1 0 0) s m ([.int p0] : List Value).toArray below meth c s.heap [] 0 0 (MQ below (zQr (fun u : Int32 => some (Value.int u)) (fun u : Int32 => post u)) ([.int p0] : List Value).toArray s 0 0 (fun _ => False)) (F0 m 11 ls []) := by
    intro x0 x1 ls hl h
    unfold wpJ6_stringSize_0f7a4_b11 at h
    refine lv_bipush (v := (-10)) hx hb dJ6_stringSize_0f7a4_11 (by decide) ?_
    refine lv_istore_n (lv' := [(2, .int (-10)), (0, .int x0), (1, .int x1)]) hx hb dJ6_stringSize_0f7a4_13 rfl hl (by decide) rfl (fun ls hl => ?_)
    refine lv_iconst (v := 1) hx hb dJ6_stringSize_0f7a4_14 (by decide) ?_
    refine lv_istore_n (lv' := [(3, .int 1), (2, .int (-10)), (0, .int x0), (1, .int x1)]) hx hb dJ6_stringSize_0f7a4_15 rfl hl (by decide) rfl (fun ls hl => ?_)
    obtain ⟨n9, h⟩ := h
    exact k16 n9 x0 x1 (-10) 1  _ (lv_sub hl [2, 3, 1, 0] rfl) h
  unfold wpJ6_stringSize_0f7a4 at h
  refine lv_iconst (v := 1) hx hb dJ6_stringSize_0f7a4_0 (by decide) ?_
  refine lv_istore_n (lv' := [(1, .int 1), (0, .int p0)]) hx hb dJ6_stringSize_0f7a4_1 rfl hl (by decide) rfl (fun ls hl => ?_)
  refine lv_iload_n hx hb dJ6_stringSize_0f7a4_2 rfl (lv_at hl 1 rfl) ?_
  refine lv_if_lt (tgt := 11) hx hb dJ6_stringSize_0f7a4_3 (by decide) (fun c3 => ?_) (fun c3 => ?_)
  · have h := h.1 c3
    exact k11 p0 1  _ (lv_sub hl [1, 0] rfl) h
  · have h := h.2 c3
    refine lv_iconst (v := 0) hx hb dJ6_stringSize_0f7a4_6 (by decide) ?_
    refine lv_istore_n (lv' := [(1, .int 0), (0, .int p0)]) hx hb dJ6_stringSize_0f7a4_7 rfl hl (by decide) rfl (fun ls hl => ?_)
    refine lv_iload_n hx hb dJ6_stringSize_0f7a4_8 rfl (lv_at hl 1 rfl) ?_
    refine lv_ineg hx hb dJ6_stringSize_0f7a4_9 ?_
    refine lv_istore_n (lv' := [(0, .int (-p0)), (1, .int 0)]) hx hb dJ6_stringSize_0f7a4_10 rfl hl (by decide) rfl (fun ls hl => ?_)
    exact k11 (-p0) 0  _ (lv_sub hl [0, 1] rfl) h
def wpJ6_getChars_ba4f3_b104 (post : Int32 → YS → Prop) (p1 : Int32) (x5 : Int32) (x6 : Int32) (y_ : YS) : Prop := (x6 = 0 → post x5 y_) ∧ (¬ x6 = 0 → vp_in (x5 + (-1)) y_.1 ∧ (post (x5 + (-1)) (y_.1, (upd y_.2 (x5 + (-1)).toNatClampNeg (vp_nar .byte 45)))))
def wpJ6_getChars_ba4f3_b22 (post : Int32 → YS → Prop) (p1 : Int32) : Nat → Int32 → Int32 → Int32 → YS → Prop
  | 0, _, _, _, _ => False
  | n + 1, x0, x5, x6, y_ => ((-100) < x0 → vp_in (-x0) 100 ∧ (vp_in (x5 + (-1)) y_.1 ∧ (((-9) ≤ x0 → wpJ6_getChars_ba4f3_b104 post p1 (x5 + (-1)) x6 (y_.1, (upd y_.2 (x5 + (-1)).toNatClampNeg (vp_nar .byte (zdO (-x0).toNatClampNeg))))) ∧ (¬ (-9) ≤ x0 → vp_in (-x0) 100 ∧ (vp_in ((x5 + (-1)) + (-1)) y_.1 ∧ (wpJ6_getChars_ba4f3_b104 post p1 ((x5 + (-1)) + (-1)) x6 (y_.1, (upd (upd y_.2 (x5 + (-1)).toNatClampNeg (vp_nar .byte (zdO (-x0).toNatClampNeg))) ((x5 + (-1)) + (-1)).toNatClampNeg (vp_nar .byte (zdT (-x0).toNatClampNeg)))))))))) ∧ (¬ (-100) < x0 → vp_in (((x0 / 100) * 100) - x0) 100 ∧ (vp_in (x5 + (-1)) y_.1 ∧ (vp_in (((x0 / 100) * 100) - x0) 100 ∧ (vp_in ((x5 + (-1)) + (-1)) y_.1 ∧ (wpJ6_getChars_ba4f3_b22 post p1 n (x0 / 100) ((x5 + (-1)) + (-1)) x6 (y_.1, (upd (upd y_.2 (x5 + (-1)).toNatClampNeg (vp_nar .byte (zdO (((x0 / 100) * 100) - x0).toNatClampNeg))) ((x5 + (-1)) + (-1)).toNatClampNeg (vp_nar .byte (zdT (((x0 / 100) * 100) - x0).toNatClampNeg)))))))))
def wpJ6_getChars_ba4f3_b12 (post : Int32 → YS → Prop) (p1 : Int32) (x0 : Int32) (x5 : Int32) (y0 : Int32) (y_ : YS) : Prop := (y0 = 0 → ∃ n22 : Nat, wpJ6_getChars_ba4f3_b22 post p1 n22 (-x0) x5 y0 y_) ∧ (¬ y0 = 0 → ∃ n22 : Nat, wpJ6_getChars_ba4f3_b22 post p1 n22 x0 x5 y0 y_)
def wpJ6_getChars_ba4f3 (post : Int32 → YS → Prop) (y : YS) (p0 : Int32) (p1 : Int32) : Prop := (0 ≤ p0 → wpJ6_getChars_ba4f3_b12 post p1 p0 p1 0 y) ∧ (¬ 0 ≤ p0 → wpJ6_getChars_ba4f3_b12 post p1 p0 p1 1 y)
set_option maxHeartbeats 4000000 in
set_option maxRecDepth 100000 in
theorem c_J6_getChars_ba4f3 {l : Launch} (hfl : l.stackTraces = false) {s0 : State} (hs0 : zS s0) (D : va_G) (cI cB cJ : ClassId) (vA : Nat → Nat) (y : YS) (p0 : Int32) (p1 : Int32) {post : Int32 → YS → Prop} (h : wpJ6_getChars_ba4f3 post y p0 p1) : zW s0 l D (zty cI cB cJ) yJ6_getChars_ba4f3 cJ6_getChars_ba4f3 7 (some .int) 1 0 0 [.int p0, .int p1, .ref (vA 0)] (wY cB vA y) (fun u : Int32 × YS => some (Value.int u.1)) (fun u : Int32 × YS => post u.1 u.2) (fun u : Int32 × YS => wY cB vA u.2) := by
  refine zW_intro (by decide +kernel) (Nat.le_of_ble_eq_true rfl) ?_
  intro p e s m below meth c A C hnm hA hG hP hD hS ls hl
  have C : zC D (zty cI cB cJ) p s m ([.int p0, .int p1, .ref (vA 0)] : List Value).toArray meth c cJ6_getChars_ba4f3 RJ6 (some .int) 7 := C
  have hx := C.1
  have hb := C.2.1
  have hts := C.2.2.1
  have hown := C.2.2.2.1
  have hml := C.2.2.2.2.2.1
  have hK := C.2.2.2.2.2.2.2
  have hl : lv_has ls 7 [(0, .int p0), (1, .int p1), (2, .ref (vA 0))] := hl
  have hP : va_P D vwCl (wY cB vA y) s.heap := hP
  have hD : va_D A (wY cB vA y) := hD
  have k104 : ∀ (x5 : Int32) (x6 : Int32) (y_ : YS) (H : Heap) (locs : List Loc), va_P D vwCl (wY cB vA y_) H → va_D A (wY cB vA y_) → va_S A s.heap H locs → ∀ (ls : Array Slot), lv_has ls 7 [(2, .ref (vA 0)), (5, .int x5), (6, .int x6)] → wpJ6_getChars_ba4f3_b104 post p1 x5 x6 y_ → W p l e (zr 1 0 0) s m ([.int p0, .int p1, .ref (vA 0)] : List Value).toArray below meth c H locs 0 0 (MQ below (zQ D (fun u : Int32 × YS => some (Value.int u.1)) (fun u : Int32 × YS => post u.1 u.2) (fun u : Int32 × YS => wY cB vA u.2) A) ([.int p0, .int p1, .ref (vA 0)] : List Value).toArray s 0 0 A) (F0 m 104 ls []) := by
    intro x5 x6 y_ H locs hP hD hS ls hl h
    unfold wpJ6_getChars_ba4f3_b104 at h
    refine lv_iload hx hb dJ6_getChars_ba4f3_104 (lv_at hl 2 rfl) ?_
    refine lv_if_eq (tgt := 118) hx hb dJ6_getChars_ba4f3_106 (by decide) (fun c106 => ?_) (fun c106 => ?_)
    · have h := h.1 c106
      refine lv_iload hx hb dJ6_getChars_ba4f3_118 (lv_at hl 1 rfl) ?_
      exact zW_iret C (x5, y_) rfl h hP hD hS (Nat.le_of_ble_eq_true rfl) (Nat.le_of_ble_eq_true rfl) dJ6_getChars_ba4f3_120
    · have h := h.2 c106
      refine lv_aload_n hx hb dJ6_getChars_ba4f3_109 rfl (lv_at hl 0 rfl) ?_
      refine lv_iinc (v := (x5 + (-1))) (lv' := [(5, .int (x5 + (-1))), (2, .ref (vA 0)), (6, .int x6)]) hx hb dJ6_getChars_ba4f3_110 hl (k := 1) rfl (by first | rfl | decide) (by decide) rfl (fun ls hl => ?_)
      refine lv_iload hx hb dJ6_getChars_ba4f3_113 (lv_at hl 0 rfl) ?_
      refine lv_bipush (v := 45) hx hb dJ6_getChars_ba4f3_115 (by decide) ?_
      obtain ⟨g9, h⟩ := h
      refine va_bast hx hb hK hP hD hS 0 1 rfl rfl g9 dJ6_getChars_ba4f3_117 (fun H locs hP hD hS => ?_)
      have hP : va_P D vwCl (wY cB vA (y_.1, (upd y_.2 (x5 + (-1)).toNatClampNeg (vp_nar .byte 45)))) H := hP
      have hD : va_D A (wY cB vA (y_.1, (upd y_.2 (x5 + (-1)).toNatClampNeg (vp_nar .byte 45)))) := hD
      refine lv_iload hx hb dJ6_getChars_ba4f3_118 (lv_at hl 0 rfl) ?_
      exact zW_iret C ((x5 + (-1)), (y_.1, (upd y_.2 (x5 + (-1)).toNatClampNeg (vp_nar .byte 45)))) rfl h hP hD hS (Nat.le_of_ble_eq_true rfl) (Nat.le_of_ble_eq_true rfl) dJ6_getChars_ba4f3_120
  have k22 : ∀ (n : Nat) (x0 : Int32) (x5 : Int32) (x6 : Int32) (y_ : YS) (H : Heap) (locs : List Loc), va_P D vwCl (wY cB vA y_) H → va_D A (wY cB vA y_) → va_S A s.heap H locs → ∀ (ls : Array Slot), lv_has ls 7 [(0, .int x0), (2, .ref (vA 0)), (5, .int x5), (6, .int x6)] → wpJ6_getChars_ba4f3_b22 post p1 n x0 x5 x6 y_ → W p l e (zr 1 0 0) s m ([.int p0, .int p1, .ref (vA 0)] : List Value).toArray below meth c H locs 0 0 (MQ below (zQ D (fun u : Int32 × YS => some (Value.int u.1)) (fun u : Int32 × YS => post u.1 u.2) (fun u : Int32 × YS => wY cB vA u.2) A) ([.int p0, .int p1, .ref (vA 0)] : List Value).toArray s 0 0 A) (F0 m 22 ls []) := by
    intro n
    induction n with
    | zero =>
      intro x0 x5 x6 y_ H locs hP hD hS ls hl h
      exact h.elim
    | succ n ih =>
      intro x0 x5 x6 y_ H locs hP hD hS ls hl h
      rw [wpJ6_getChars_ba4f3_b22] at h
      refine lv_iload_n hx hb dJ6_getChars_ba4f3_22 rfl (lv_at hl 0 rfl) ?_
      refine lv_bipush (v := (-100)) hx hb dJ6_getChars_ba4f3_23 (by decide) ?_
      refine lv_icmp_gt (tgt := 72) hx hb dJ6_getChars_ba4f3_25 (by decide) (fun c25 => ?_) (fun c25 => ?_)
      · have h := h.1 c25
        refine lv_aload_n hx hb dJ6_getChars_ba4f3_72 rfl (lv_at hl 1 rfl) ?_
        refine lv_iinc (v := (x5 + (-1))) (lv' := [(5, .int (x5 + (-1))), (0, .int x0), (2, .ref (vA 0)), (6, .int x6)]) hx hb dJ6_getChars_ba4f3_73 hl (k := 2) rfl (by first | rfl | decide) (by decide) rfl (fun ls hl => ?_)
        refine lv_iload hx hb dJ6_getChars_ba4f3_76 (lv_at hl 0 rfl) ?_
        obtain ⟨t78, hz78, hT78⟩ := z_dig hs0 hG z_dO1 z_dgO
        refine va_gets hx hb hz78 hS hown (hts _ q375) (fun _ h => h) dJ6_getChars_ba4f3_78 ?_
        refine lv_iload_n hx hb dJ6_getChars_ba4f3_81 rfl (lv_at hl 1 rfl) ?_
        refine lv_ineg hx hb dJ6_getChars_ba4f3_82 ?_
        obtain ⟨g9, h⟩ := h
        refine va_tb hx hb hT78 hS g9 rfl dJ6_getChars_ba4f3_83 ?_
        obtain ⟨g9, h⟩ := h
        refine va_bast hx hb hK hP hD hS 0 1 rfl rfl g9 dJ6_getChars_ba4f3_84 (fun H locs hP hD hS => ?_)
        have hP : va_P D vwCl (wY cB vA (y_.1, (upd y_.2 (x5 + (-1)).toNatClampNeg (vp_nar .byte (zdO (-x0).toNatClampNeg))))) H := hP
        have hD : va_D A (wY cB vA (y_.1, (upd y_.2 (x5 + (-1)).toNatClampNeg (vp_nar .byte (zdO (-x0).toNatClampNeg))))) := hD
        refine lv_iload_n hx hb dJ6_getChars_ba4f3_85 rfl (lv_at hl 1 rfl) ?_
        refine lv_bipush (v := (-9)) hx hb dJ6_getChars_ba4f3_86 (by decide) ?_
        refine lv_icmp_ge (tgt := 104) hx hb dJ6_getChars_ba4f3_88 (by decide) (fun c88 => ?_) (fun c88 => ?_)
        · have h := h.1 c88
          refine W.widen (k := 0) (n := 0) (Nat.le_of_ble_eq_true rfl) (Nat.le_of_ble_eq_true rfl) ?_
          exact k104 (x5 + (-1)) x6 (y_.1, (upd y_.2 (x5 + (-1)).toNatClampNeg (vp_nar .byte (zdO (-x0).toNatClampNeg))))  _ _ hP hD hS _ (lv_sub hl [2, 0, 3] rfl) h
        · have h := h.2 c88
          refine lv_aload_n hx hb dJ6_getChars_ba4f3_91 rfl (lv_at hl 2 rfl) ?_
          refine lv_iinc (v := ((x5 + (-1)) + (-1))) (lv' := [(5, .int ((x5 + (-1)) + (-1))), (0, .int x0), (2, .ref (vA 0)), (6, .int x6)]) hx hb dJ6_getChars_ba4f3_92 hl (k := 0) rfl (by first | rfl | decide) (by decide) rfl (fun ls hl => ?_)
          refine lv_iload hx hb dJ6_getChars_ba4f3_95 (lv_at hl 0 rfl) ?_
          obtain ⟨t97, hz97, hT97⟩ := z_dig hs0 hG z_dT1 z_dgT
          refine va_gets hx hb hz97 hS hown (hts _ q376) (fun _ h => h) dJ6_getChars_ba4f3_97 ?_
          refine lv_iload_n hx hb dJ6_getChars_ba4f3_100 rfl (lv_at hl 1 rfl) ?_
          refine lv_ineg hx hb dJ6_getChars_ba4f3_101 ?_
          obtain ⟨g9, h⟩ := h
          refine va_tb hx hb hT97 hS g9 rfl dJ6_getChars_ba4f3_102 ?_
          obtain ⟨g9, h⟩ := h
          refine va_bast hx hb hK hP hD hS 0 1 rfl rfl g9 dJ6_getChars_ba4f3_103 (fun H locs hP hD hS => ?_)
          have hP : va_P D vwCl (wY cB vA (y_.1, (upd (upd y_.2 (x5 + (-1)).toNatClampNeg (vp_nar .byte (zdO (-x0).toNatClampNeg))) ((x5 + (-1)) + (-1)).toNatClampNeg (vp_nar .byte (zdT (-x0).toNatClampNeg))))) H := hP
          have hD : va_D A (wY cB vA (y_.1, (upd (upd y_.2 (x5 + (-1)).toNatClampNeg (vp_nar .byte (zdO (-x0).toNatClampNeg))) ((x5 + (-1)) + (-1)).toNatClampNeg (vp_nar .byte (zdT (-x0).toNatClampNeg))))) := hD
          refine W.widen (k := 0) (n := 0) (Nat.le_of_ble_eq_true rfl) (Nat.le_of_ble_eq_true rfl) ?_
          exact k104 ((x5 + (-1)) + (-1)) x6 (y_.1, (upd (upd y_.2 (x5 + (-1)).toNatClampNeg (vp_nar .byte (zdO (-x0).toNatClampNeg))) ((x5 + (-1)) + (-1)).toNatClampNeg (vp_nar .byte (zdT (-x0).toNatClampNeg))))  _ _ hP hD hS _ (lv_sub hl [2, 0, 3] rfl) h
      · have h := h.2 c25
        refine lv_iload_n hx hb dJ6_getChars_ba4f3_28 rfl (lv_at hl 0 rfl) ?_
        refine lv_bipush (v := 100) hx hb dJ6_getChars_ba4f3_29 (by decide) ?_
        refine lv_idiv hx hb dJ6_getChars_ba4f3_31 (by decide) ?_
        refine lv_istore_n (lv' := [(3, .int (x0 / 100)), (0, .int x0), (2, .ref (vA 0)), (5, .int x5), (6, .int x6)]) hx hb dJ6_getChars_ba4f3_32 rfl hl (by decide) rfl (fun ls hl => ?_)
        refine lv_iload_n hx hb dJ6_getChars_ba4f3_33 rfl (lv_at hl 0 rfl) ?_
        refine lv_bipush (v := 100) hx hb dJ6_getChars_ba4f3_34 (by decide) ?_
        refine lv_imul hx hb dJ6_getChars_ba4f3_36 ?_
        refine lv_iload_n hx hb dJ6_getChars_ba4f3_37 rfl (lv_at hl 1 rfl) ?_
        refine lv_isub hx hb dJ6_getChars_ba4f3_38 ?_
        refine lv_istore (lv' := [(4, .int (((x0 / 100) * 100) - x0)), (3, .int (x0 / 100)), (0, .int x0), (2, .ref (vA 0)), (5, .int x5), (6, .int x6)]) hx hb dJ6_getChars_ba4f3_39 hl (by decide) rfl (fun ls hl => ?_)
        refine lv_iload_n hx hb dJ6_getChars_ba4f3_41 rfl (lv_at hl 1 rfl) ?_
        refine lv_istore_n (lv' := [(0, .int (x0 / 100)), (4, .int (((x0 / 100) * 100) - x0)), (3, .int (x0 / 100)), (2, .ref (vA 0)), (5, .int x5), (6, .int x6)]) hx hb dJ6_getChars_ba4f3_42 rfl hl (by decide) rfl (fun ls hl => ?_)
        refine lv_aload_n hx hb dJ6_getChars_ba4f3_43 rfl (lv_at hl 3 rfl) ?_
        refine lv_iinc (v := (x5 + (-1))) (lv' := [(5, .int (x5 + (-1))), (0, .int (x0 / 100)), (4, .int (((x0 / 100) * 100) - x0)), (3, .int (x0 / 100)), (2, .ref (vA 0)), (6, .int x6)]) hx hb dJ6_getChars_ba4f3_44 hl (k := 4) rfl (by first | rfl | decide) (by decide) rfl (fun ls hl => ?_)
        refine lv_iload hx hb dJ6_getChars_ba4f3_47 (lv_at hl 0 rfl) ?_
        obtain ⟨t49, hz49, hT49⟩ := z_dig hs0 hG z_dO1 z_dgO
        refine va_gets hx hb hz49 hS hown (hts _ q375) (fun _ h => h) dJ6_getChars_ba4f3_49 ?_
        refine lv_iload hx hb dJ6_getChars_ba4f3_52 (lv_at hl 2 rfl) ?_
        obtain ⟨g9, h⟩ := h
        refine va_tb hx hb hT49 hS g9 rfl dJ6_getChars_ba4f3_54 ?_
        obtain ⟨g9, h⟩ := h
        refine va_bast hx hb hK hP hD hS 0 1 rfl rfl g9 dJ6_getChars_ba4f3_55 (fun H locs hP hD hS => ?_)
        have hP : va_P D vwCl (wY cB vA (y_.1, (upd y_.2 (x5 + (-1)).toNatClampNeg (vp_nar .byte (zdO (((x0 / 100) * 100) - x0).toNatClampNeg))))) H := hP
        have hD : va_D A (wY cB vA (y_.1, (upd y_.2 (x5 + (-1)).toNatClampNeg (vp_nar .byte (zdO (((x0 / 100) * 100) - x0).toNatClampNeg))))) := hD
        refine lv_aload_n hx hb dJ6_getChars_ba4f3_56 rfl (lv_at hl 4 rfl) ?_
        refine lv_iinc (v := ((x5 + (-1)) + (-1))) (lv' := [(5, .int ((x5 + (-1)) + (-1))), (0, .int (x0 / 100)), (4, .int (((x0 / 100) * 100) - x0)), (3, .int (x0 / 100)), (2, .ref (vA 0)), (6, .int x6)]) hx hb dJ6_getChars_ba4f3_57 hl (k := 0) rfl (by first | rfl | decide) (by decide) rfl (fun ls hl => ?_)
        refine lv_iload hx hb dJ6_getChars_ba4f3_60 (lv_at hl 0 rfl) ?_
        obtain ⟨t62, hz62, hT62⟩ := z_dig hs0 hG z_dT1 z_dgT
        refine va_gets hx hb hz62 hS hown (hts _ q376) (fun _ h => h) dJ6_getChars_ba4f3_62 ?_
        refine lv_iload hx hb dJ6_getChars_ba4f3_65 (lv_at hl 2 rfl) ?_
        obtain ⟨g9, h⟩ := h
        refine va_tb hx hb hT62 hS g9 rfl dJ6_getChars_ba4f3_67 ?_
        obtain ⟨g9, h⟩ := h
        refine va_bast hx hb hK hP hD hS 0 1 rfl rfl g9 dJ6_getChars_ba4f3_68 (fun H locs hP hD hS => ?_)
        have hP : va_P D vwCl (wY cB vA (y_.1, (upd (upd y_.2 (x5 + (-1)).toNatClampNeg (vp_nar .byte (zdO (((x0 / 100) * 100) - x0).toNatClampNeg))) ((x5 + (-1)) + (-1)).toNatClampNeg (vp_nar .byte (zdT (((x0 / 100) * 100) - x0).toNatClampNeg))))) H := hP
        have hD : va_D A (wY cB vA (y_.1, (upd (upd y_.2 (x5 + (-1)).toNatClampNeg (vp_nar .byte (zdO (((x0 / 100) * 100) - x0).toNatClampNeg))) ((x5 + (-1)) + (-1)).toNatClampNeg (vp_nar .byte (zdT (((x0 / 100) * 100) - x0).toNatClampNeg))))) := hD
        refine lv_goto (tgt := 22) hx hb dJ6_getChars_ba4f3_69 (by decide) ?_
        refine W.widen (k := 0) (n := 0) (Nat.le_of_ble_eq_true rfl) (Nat.le_of_ble_eq_true rfl) ?_
        exact ih (x0 / 100) ((x5 + (-1)) + (-1)) x6 (y_.1, (upd (upd y_.2 (x5 + (-1)).toNatClampNeg (vp_nar .byte (zdO (((x0 / 100) * 100) - x0).toNatClampNeg))) ((x5 + (-1)) + (-1)).toNatClampNeg (vp_nar .byte (zdT (((x0 / 100) * 100) - x0).toNatClampNeg))))  _ _ hP hD hS _ (lv_sub hl [1, 4, 0, 5] rfl) h
  have k12 : ∀ (x0 : Int32) (x5 : Int32) (y0 : Int32) (y_ : YS) (H : Heap) (locs : List Loc), va_P D vwCl (wY cB vA y_) H → va_D A (wY cB vA y_) → va_S A s.heap H locs → ∀ (ls : Array Slot), lv_has ls 7 [(0, .int x0), (2, .ref (vA 0)), (5, .int x5)] → wpJ6_getChars_ba4f3_b12 post p1 x0 x5 y0 y_ → W p l e (zr 1 0 0) s m ([.int p0, .int p1, .ref (vA 0)] : List Value).toArray below meth c H locs 0 0 (MQ below (zQ D (fun u : Int32 × YS => some (Value.int u.1)) (fun u : Int32 × YS => post u.1 u.2) (fun u : Int32 × YS => wY cB vA u.2) A) ([.int p0, .int p1, .ref (vA 0)] : List Value).toArray s 0 0 A) (F0 m 12 ls [.int y0]) := by
    intro x0 x5 y0 y_ H locs hP hD hS ls hl h
    unfold wpJ6_getChars_ba4f3_b12 at h
    refine lv_istore (lv' := [(6, .int y0), (0, .int x0), (2, .ref (vA 0)), (5, .int x5)]) hx hb dJ6_getChars_ba4f3_12 hl (by decide) rfl (fun ls hl => ?_)
    refine lv_iload hx hb dJ6_getChars_ba4f3_14 (lv_at hl 0 rfl) ?_
    refine lv_if_ne (tgt := 22) hx hb dJ6_getChars_ba4f3_16 (by decide) (fun c16 => ?_) (fun c16 => ?_)
    · have h := h.2 c16
      refine W.widen (k := 0) (n := 0) (Nat.le_of_ble_eq_true rfl) (Nat.le_of_ble_eq_true rfl) ?_
      obtain ⟨n9, h⟩ := h
      exact k22 n9 x0 x5 y0 y_  _ _ hP hD hS _ (lv_sub hl [1, 2, 3, 0] rfl) h
    · have h := h.1 c16
      refine lv_iload_n hx hb dJ6_getChars_ba4f3_19 rfl (lv_at hl 1 rfl) ?_
      refine lv_ineg hx hb dJ6_getChars_ba4f3_20 ?_
      refine lv_istore_n (lv' := [(0, .int (-x0)), (6, .int y0), (2, .ref (vA 0)), (5, .int x5)]) hx hb dJ6_getChars_ba4f3_21 rfl hl (by decide) rfl (fun ls hl => ?_)
      refine W.widen (k := 0) (n := 0) (Nat.le_of_ble_eq_true rfl) (Nat.le_of_ble_eq_true rfl) ?_
      obtain ⟨n9, h⟩ := h
      exact k22 n9 (-x0) x5 y0 y_  _ _ hP hD hS _ (lv_sub hl [0, 2, 3, 1] rfl) h
  unfold wpJ6_getChars_ba4f3 at h
  refine lv_iload_n hx hb dJ6_getChars_ba4f3_0 rfl (lv_at hl 1 rfl) ?_
  refine lv_istore (lv' := [(5, .int p1), (0, .int p0), (1, .int p1), (2, .ref (vA 0))]) hx hb dJ6_getChars_ba4f3_1 hl (by decide) rfl (fun ls hl => ?_)
  refine lv_iload_n hx hb dJ6_getChars_ba4f3_3 rfl (lv_at hl 1 rfl) ?_
  refine lv_if_ge (tgt := 11) hx hb dJ6_getChars_ba4f3_4 (by decide) (fun c4 => ?_) (fun c4 => ?_)
  · have h := h.1 c4
    refine lv_iconst (v := 0) hx hb dJ6_getChars_ba4f3_11 (by decide) ?_
    refine W.widen (k := 0) (n := 0) (Nat.le_of_ble_eq_true rfl) (Nat.le_of_ble_eq_true rfl) ?_
    exact k12 p0 p1 0 y  _ _ hP hD hS _ (lv_sub hl [1, 3, 0] rfl) h
  · have h := h.2 c4
    refine lv_iconst (v := 1) hx hb dJ6_getChars_ba4f3_7 (by decide) ?_
    refine lv_goto (tgt := 12) hx hb dJ6_getChars_ba4f3_8 (by decide) ?_
    refine W.widen (k := 0) (n := 0) (Nat.le_of_ble_eq_true rfl) (Nat.le_of_ble_eq_true rfl) ?_
    exact k12 p0 p1 1 y  _ _ hP hD hS _ (lv_sub hl [1, 3, 0] rfl) h
def wpJ5_append_c97b9_b48 (post : SS → Prop) (p0 : Int32) (x3 : Int32) (x_ : SS) : Prop := post (x_.1, x_.2.1, x_.2.2.1, x3)
def wpJ5_append_c97b9 (post : SS → Prop) (x : SS) (p0 : Int32) : Prop := wpJ6_stringSize_0f7a4 (fun r7 => wpJ5_ensureCapacityInternal_d00df (fun x14 => wpJ5_isLatin1_aae02 (fun r18 => (r18 = 0 → False) ∧ (¬ r18 = 0 → wpJ6_getChars_ba4f3 (fun r30 y30 => wpJ5_append_c97b9_b48 post p0 (x.2.2.2 + r7) (x14.1, y30, x14.2.2.1, x14.2.2.2)) x14.2.1 p0 (x.2.2.2 + r7))) x14) x (x.2.2.2 + r7)) p0
set_option maxHeartbeats 4000000 in
set_option maxRecDepth 100000 in
theorem c_J5_append_c97b9 {l : Launch} (hfl : l.stackTraces = false) {s0 : State} (hs0 : zS s0) (D : va_G) (cI cB cJ : ClassId) (sA : Nat → Nat) (x : SS) (p0 : Int32) {post : SS → Prop} (h : wpJ5_append_c97b9 post x p0) : zW s0 l D (zty cI cB cJ) yJ5_append_c97b9 cJ5_append_c97b9 4 (some (.object "java/lang/AbstractStringBuilder")) 5 1 34 [.ref (sA 0), .int p0] (wS cB sA x) (fun _ : SS => some (Value.ref (sA 0))) (fun u : SS => post u) (fun u : SS => wS cB sA u) := by
  refine zW_intro (by decide +kernel) (Nat.le_of_ble_eq_true rfl) ?_
  intro p e s m below meth c A C hnm hA hG hP hD hS ls hl
  have C : zC D (zty cI cB cJ) p s m ([.ref (sA 0), .int p0] : List Value).toArray meth c cJ5_append_c97b9 RJ5 (some (.object "java/lang/AbstractStringBuilder")) 4 := C
  have hx := C.1
  have hb := C.2.1
  have hts := C.2.2.1
  have hown := C.2.2.2.1
  have hml := C.2.2.2.2.2.1
  have hK := C.2.2.2.2.2.2.2
  have hl : lv_has ls 4 [(0, .ref (sA 0)), (1, .int p0)] := hl
  have hP : va_P D vwCl (wS cB sA x) s.heap := hP
  have hD : va_D A (wS cB sA x) := hD
  have k48 : ∀ (x3 : Int32) (x_ : SS) (H : Heap) (locs : List Loc), va_P D vwCl (wS cB sA x_) H → va_D A (wS cB sA x_) → va_S A s.heap H locs → ∀ (ls : Array Slot), lv_has ls 4 [(0, .ref (sA 0)), (3, .int x3)] → wpJ5_append_c97b9_b48 post p0 x3 x_ → W p l e (zr 5 1 34) s m ([.ref (sA 0), .int p0] : List Value).toArray below meth c H locs 1 34 (MQ below (zQ D (fun _ : SS => some (Value.ref (sA 0))) (fun u : SS => post u) (fun u : SS => wS cB sA u) A) ([.ref (sA 0), .int p0] : List Value).toArray s 1 34 A) (F0 m 48 ls []) := by
    intro x3 x_ H locs hP hD hS ls hl h
    unfold wpJ5_append_c97b9_b48 at h
    refine lv_aload_n hx hb dJ5_append_c97b9_48 rfl (lv_at hl 0 rfl) ?_
    refine lv_iload_n hx hb dJ5_append_c97b9_49 rfl (lv_at hl 1 rfl) ?_
    refine z_put C f_J5_79 zt_J4 rfl rfl rfl rfl hP hD hS (q0 := 0) rfl (Nat.le_of_ble_eq_true rfl) dJ5_append_c97b9_50 (fun H locs hP hD hS => ?_)
    have hP : va_P D vwCl (wS cB sA (x_.1, x_.2.1, x_.2.2.1, x3)) H := hP
    have hD : va_D A (wS cB sA (x_.1, x_.2.1, x_.2.2.1, x3)) := hD
    refine lv_aload_n hx hb dJ5_append_c97b9_53 rfl (lv_at hl 0 rfl) ?_
    exact zW_aret C (Or.inl ⟨_, rfl⟩) (x_.1, x_.2.1, x_.2.2.1, x3) rfl h hP hD hS (Nat.le_of_ble_eq_true rfl) (Nat.le_of_ble_eq_true rfl) dJ5_append_c97b9_54
  unfold wpJ5_append_c97b9 at h
  refine lv_aload_n hx hb dJ5_append_c97b9_0 rfl (lv_at hl 0 rfl) ?_
  refine z_get C f_J5_79 hP (q0 := 0) rfl rfl dJ5_append_c97b9_1 ?_
  refine lv_istore_n (lv' := [(2, .int x.2.2.2), (0, .ref (sA 0)), (1, .int p0)]) hx hb dJ5_append_c97b9_4 rfl hl (by decide) rfl (fun ls hl => ?_)
  refine lv_iload_n hx hb dJ5_append_c97b9_5 rfl (lv_at hl 0 rfl) ?_
  refine lv_iload_n hx hb dJ5_append_c97b9_6 rfl (lv_at hl 2 rfl) ?_
  refine z_RS (As := [.int p0]) (rest := [.int x.2.2.2]) [] C (hG.kept hS.1 hS.2.1).none hP (c_J6_stringSize_0f7a4 hfl hs0 D cI cB cJ p0 h) q378 v_J6_stringSize_0f7a4 rfl rfl ⟨(Nat.le_of_ble_eq_true rfl), (Nat.le_of_ble_eq_true rfl)⟩ ⟨(Nat.le_of_ble_eq_true rfl), (Nat.le_of_ble_eq_true rfl)⟩ hl.1 rfl (lv_room (Nat.le_of_ble_eq_true rfl)) dJ5_append_c97b9_7 (fun r7 h => ?_)
  refine lv_iadd hx hb dJ5_append_c97b9_10 ?_
  refine lv_istore_n (lv' := [(3, .int (x.2.2.2 + r7)), (2, .int x.2.2.2), (0, .ref (sA 0)), (1, .int p0)]) hx hb dJ5_append_c97b9_11 rfl hl (by decide) rfl (fun ls hl => ?_)
  refine lv_aload_n hx hb dJ5_append_c97b9_12 rfl (lv_at hl 2 rfl) ?_
  refine lv_iload_n hx hb dJ5_append_c97b9_13 rfl (lv_at hl 0 rfl) ?_
  refine z_WU (As := [.int (x.2.2.2 + r7)]) (rest := []) (wr := ([] : va_W)) (wN := (fun u : SS => wS cB sA u)) [0, 1] [] [0, 1] C hG hA hP hD hS (c_J5_ensureCapacityInternal_d00df hfl hs0 D cI cB cJ sA x (x.2.2.2 + r7) h) q379 u_J5_ensureCapacityInternal_d00df (hts _ q392) rfl rfl ⟨by decide, by decide, by decide⟩ (by decide) (fun _ => rfl) rfl rfl rfl ⟨(Nat.le_of_ble_eq_true rfl), (Nat.le_of_ble_eq_true rfl)⟩ ⟨(Nat.le_of_ble_eq_true rfl), (Nat.le_of_ble_eq_true rfl)⟩ hl.1 rfl (lv_room (Nat.le_of_ble_eq_true rfl)) dJ5_append_c97b9_14 (fun u H locs h hP hD hS => ?_)
  obtain ⟨x14, rfl⟩ : ∃ z, z = u := ⟨_, rfl⟩
  have hP : va_P D vwCl (wS cB sA x14) H := hP
  have hD : va_D A (wS cB sA x14) := hD
  refine lv_aload_n hx hb dJ5_append_c97b9_17 rfl (lv_at hl 2 rfl) ?_
  refine z_RU (As := []) (rest := []) [0, 1] C (hG.kept hS.1 hS.2.1).none hP (c_J5_isLatin1_aae02 hfl hs0 D cI cB cJ sA x14 h) q380 u_J5_isLatin1_aae02 (hts _ q388) rfl rfl rfl rfl ⟨(Nat.le_of_ble_eq_true rfl), (Nat.le_of_ble_eq_true rfl)⟩ ⟨(Nat.le_of_ble_eq_true rfl), (Nat.le_of_ble_eq_true rfl)⟩ hl.1 rfl (lv_room (Nat.le_of_ble_eq_true rfl)) dJ5_append_c97b9_18 (fun r18 h => ?_)
  refine lv_if_eq (tgt := 37) hx hb dJ5_append_c97b9_21 (by decide) (fun c21 => ?_) (fun c21 => ?_)
  · have h := h.1 c21
    exact (show False from h).elim
  · have h := h.2 c21
    refine lv_iload_n hx hb dJ5_append_c97b9_24 rfl (lv_at hl 3 rfl) ?_
    refine lv_iload_n hx hb dJ5_append_c97b9_25 rfl (lv_at hl 0 rfl) ?_
    refine lv_aload_n hx hb dJ5_append_c97b9_26 rfl (lv_at hl 2 rfl) ?_
    refine z_get C f_J5_15 hP (q0 := 0) rfl rfl dJ5_append_c97b9_27 ?_
    refine z_WS (As := [.int p0, .int (x.2.2.2 + r7), .ref x14.1]) (rest := []) (wr := (List.filterMap (fun i => (wS cB sA x14)[i]?) [0])) (wN := (fun u : Int32 × YS => wS cB sA (x14.1, u.2, x14.2.2.1, x14.2.2.2))) [1] [0] [0, 1] C hG hA hP hD hS (c_J6_getChars_ba4f3 hfl hs0 D cI cB cJ (fun _ : Nat => x14.1) x14.2.1 p0 (x.2.2.2 + r7) h) q381 v_J6_getChars_ba4f3 rfl rfl ⟨by decide, by decide, by decide⟩ (by decide) (fun _ => rfl) rfl ⟨(Nat.le_of_ble_eq_true rfl), (Nat.le_of_ble_eq_true rfl)⟩ ⟨(Nat.le_of_ble_eq_true rfl), (Nat.le_of_ble_eq_true rfl)⟩ hl.1 rfl (lv_room (Nat.le_of_ble_eq_true rfl)) dJ5_append_c97b9_30 (fun u H locs h hP hD hS => ?_)
    obtain ⟨r30, y30⟩ := u
    have hP : va_P D vwCl (wS cB sA (x14.1, y30, x14.2.2.1, x14.2.2.2)) H := hP
    have hD : va_D A (wS cB sA (x14.1, y30, x14.2.2.1, x14.2.2.2)) := hD
    refine lv_pop hx hb dJ5_append_c97b9_33 rfl ?_
    refine lv_goto (tgt := 48) hx hb dJ5_append_c97b9_34 (by decide) ?_
    refine W.widen (k := 1) (n := 34) (Nat.le_of_ble_eq_true rfl) (Nat.le_of_ble_eq_true rfl) ?_
    exact k48 (x.2.2.2 + r7) (x14.1, y30, x14.2.2.1, x14.2.2.2)  _ _ hP hD hS _ (lv_sub hl [2, 0] rfl) h
def wpJ4_append_bf812 (post : SS → Prop) (x : SS) (p0 : Int32) : Prop := wpJ5_append_c97b9 (fun x2 => post x2) x p0
set_option maxHeartbeats 4000000 in
set_option maxRecDepth 100000 in
theorem c_J4_append_bf812 {l : Launch} (hfl : l.stackTraces = false) {s0 : State} (hs0 : zS s0) (D : va_G) (cI cB cJ : ClassId) (sA : Nat → Nat) (x : SS) (p0 : Int32) {post : SS → Prop} (h : wpJ4_append_bf812 post x p0) : zW s0 l D (zty cI cB cJ) yJ4_append_bf812 cJ4_append_bf812 2 (some (.object "java/lang/StringBuilder")) 6 1 34 [.ref (sA 0), .int p0] (wS cB sA x) (fun _ : SS => some (Value.ref (sA 0))) (fun u : SS => post u) (fun u : SS => wS cB sA u) := by
  refine zW_intro (by decide +kernel) (Nat.le_of_ble_eq_true rfl) ?_
  intro p e s m below meth c A C hnm hA hG hP hD hS ls hl
  have C : zC D (zty cI cB cJ) p s m ([.ref (sA 0), .int p0] : List Value).toArray meth c cJ4_append_bf812 RJ4 (some (.object "java/lang/StringBuilder")) 2 := C
  have hx := C.1
  have hb := C.2.1
  have hts := C.2.2.1
  have hown := C.2.2.2.1
  have hml := C.2.2.2.2.2.1
  have hK := C.2.2.2.2.2.2.2
  have hl : lv_has ls 2 [(0, .ref (sA 0)), (1, .int p0)] := hl
  have hP : va_P D vwCl (wS cB sA x) s.heap := hP
  have hD : va_D A (wS cB sA x) := hD
  unfold wpJ4_append_bf812 at h
  refine lv_aload_n hx hb dJ4_append_bf812_0 rfl (lv_at hl 0 rfl) ?_
  refine lv_iload_n hx hb dJ4_append_bf812_1 rfl (lv_at hl 1 rfl) ?_
  refine z_WSU (As := [.int p0]) (rest := []) (wr := ([] : va_W)) (wN := (fun u : SS => wS cB sA u)) [0, 1] [] [0, 1] C hG hA hP hD hS (c_J5_append_c97b9 hfl hs0 D cI cB cJ sA x p0 h) q395 u_J5_append_c97b9 q399 (by decide) rfl rfl ⟨by decide, by decide, by decide⟩ (by decide) (fun _ => rfl) rfl rfl rfl ⟨(Nat.le_of_ble_eq_true rfl), (Nat.le_of_ble_eq_true rfl)⟩ ⟨(Nat.le_of_ble_eq_true rfl), (Nat.le_of_ble_eq_true rfl)⟩ hl.1 rfl (lv_room (Nat.le_of_ble_eq_true rfl)) dJ4_append_bf812_2 (fun u H locs h hP hD hS => ?_)
  obtain ⟨x2, rfl⟩ : ∃ z, z = u := ⟨_, rfl⟩
  have hP : va_P D vwCl (wS cB sA x2) H := hP
  have hD : va_D A (wS cB sA x2) := hD
  refine lv_pop hx hb dJ4_append_bf812_5 rfl ?_
  refine lv_aload_n hx hb dJ4_append_bf812_6 rfl (lv_at hl 0 rfl) ?_
  exact zW_aret C (Or.inl ⟨_, rfl⟩) x2 rfl h hP hD hS (Nat.le_of_ble_eq_true rfl) (Nat.le_of_ble_eq_true rfl) dJ4_append_bf812_7
def wpJ1_canEncode_fc78d (post : Int32 → Prop) (p0 : Int32) : Prop := (255 < p0 → post 0) ∧ (¬ 255 < p0 → post 1)
set_option maxHeartbeats 4000000 in
set_option maxRecDepth 100000 in
theorem c_J1_canEncode_fc78d {l : Launch} (hfl : l.stackTraces = false) {s0 : State} (hs0 : zS s0) (D : va_G) (cI cB cJ : ClassId) (p0 : Int32) {post : Int32 → Prop} (h : wpJ1_canEncode_fc78d post p0) : zR s0 l D (zty cI cB cJ) yJ1_canEncode_fc78d cJ1_canEncode_fc78d 1 (some .boolean) 1 [.int p0] ([]) (fun u : Int32 => some (Value.int u)) (fun u : Int32 => post u) := by
  refine zR_intro (by decide +kernel) (Nat.le_of_ble_eq_true rfl) ?_
  intro p e s m below meth c C hP hG ls hl
  have C : zC D (zty cI cB cJ) p s m ([.int p0] : List Value).toArray meth c cJ1_canEncode_fc78d RJ1 (some .boolean) 1 := C
  have hx := C.1
  have hb := C.2.1
  have hts := C.2.2.1
  have hown := C.2.2.2.1
  have hml := C.2.2.2.2.2.1
  have hK := C.2.2.2.2.2.2.2
  have hl : lv_has ls 1 [(0, .int p0)] := hl
  unfold wpJ1_canEncode_fc78d at h
  refine lv_iload_n hx hb dJ1_canEncode_fc78d_0 rfl (lv_at hl 0 rfl) ?_
  refine lv_sipush (v := 255) hx hb dJ1_canEncode_fc78d_1 (by decide) ?_
  refine lv_icmp_gt (tgt := 11) hx hb dJ1_canEncode_fc78d_4 (by decide) (fun c4 => ?_) (fun c4 => ?_)
  · have h := h.1 c4
    refine lv_iconst (v := 0) hx hb dJ1_canEncode_fc78d_11 (by decide) ?_
    exact zR_zret C rfl 0 rfl h dJ1_canEncode_fc78d_12
  · have h := h.2 c4
    refine lv_iconst (v := 1) hx hb dJ1_canEncode_fc78d_7 (by decide) ?_
    refine lv_goto (tgt := 12) hx hb dJ1_canEncode_fc78d_8 (by decide) ?_
    exact zR_zret C rfl 1 rfl h dJ1_canEncode_fc78d_12
def wpJ5_append_3fe6f (post : SS → Prop) (x : SS) (p0 : Int32) : Prop := wpJ5_ensureCapacityInternal_d00df (fun x7 => wpJ5_isLatin1_aae02 (fun r11 => (r11 = 0 → False) ∧ (¬ r11 = 0 → wpJ1_canEncode_fc78d (fun r18 => (r18 = 0 → False) ∧ (¬ r18 = 0 → vp_in x7.2.2.2 x7.2.1.1 ∧ (post (x7.1, (x7.2.1.1, (upd x7.2.1.2 x7.2.2.2.toNatClampNeg (vp_nar .byte p0.toInt8.toInt32))), x7.2.2.1, (x7.2.2.2 + 1))))) p0)) x7) x (x.2.2.2 + 1)
set_option maxHeartbeats 4000000 in
set_option maxRecDepth 100000 in
theorem c_J5_append_3fe6f {l : Launch} (hfl : l.stackTraces = false) {s0 : State} (hs0 : zS s0) (D : va_G) (cI cB cJ : ClassId) (sA : Nat → Nat) (x : SS) (p0 : Int32) {post : SS → Prop} (h : wpJ5_append_3fe6f post x p0) : zW s0 l D (zty cI cB cJ) yJ5_append_3fe6f cJ5_append_3fe6f 2 (some (.object "java/lang/AbstractStringBuilder")) 5 1 34 [.ref (sA 0), .int p0] (wS cB sA x) (fun _ : SS => some (Value.ref (sA 0))) (fun u : SS => post u) (fun u : SS => wS cB sA u) := by
  refine zW_intro (by decide +kernel) (Nat.le_of_ble_eq_true rfl) ?_
  intro p e s m below meth c A C hnm hA hG hP hD hS ls hl
  have C : zC D (zty cI cB cJ) p s m ([.ref (sA 0), .int p0] : List Value).toArray meth c cJ5_append_3fe6f RJ5 (some (.object "java/lang/AbstractStringBuilder")) 2 := C
  have hx := C.1
  have hb := C.2.1
  have hts := C.2.2.1
  have hown := C.2.2.2.1
  have hml := C.2.2.2.2.2.1
  have hK := C.2.2.2.2.2.2.2
  have hl : lv_has ls 2 [(0, .ref (sA 0)), (1, .int p0)] := hl
  have hP : va_P D vwCl (wS cB sA x) s.heap := hP
  have hD : va_D A (wS cB sA x) := hD
  unfold wpJ5_append_3fe6f at h
  refine lv_aload_n hx hb dJ5_append_3fe6f_0 rfl (lv_at hl 0 rfl) ?_
  refine lv_aload_n hx hb dJ5_append_3fe6f_1 rfl (lv_at hl 0 rfl) ?_
  refine z_get C f_J5_79 hP (q0 := 0) rfl rfl dJ5_append_3fe6f_2 ?_
  refine lv_iconst (v := 1) hx hb dJ5_append_3fe6f_5 (by decide) ?_
  refine lv_iadd hx hb dJ5_append_3fe6f_6 ?_
  refine z_WU (As := [.int (x.2.2.2 + 1)]) (rest := []) (wr := ([] : va_W)) (wN := (fun u : SS => wS cB sA u)) [0, 1] [] [0, 1] C hG hA hP hD hS (c_J5_ensureCapacityInternal_d00df hfl hs0 D cI cB cJ sA x (x.2.2.2 + 1) h) q379 u_J5_ensureCapacityInternal_d00df (hts _ q392) rfl rfl ⟨by decide, by decide, by decide⟩ (by decide) (fun _ => rfl) rfl rfl rfl ⟨(Nat.le_of_ble_eq_true rfl), (Nat.le_of_ble_eq_true rfl)⟩ ⟨(Nat.le_of_ble_eq_true rfl), (Nat.le_of_ble_eq_true rfl)⟩ hl.1 rfl (lv_room (Nat.le_of_ble_eq_true rfl)) dJ5_append_3fe6f_7 (fun u H locs h hP hD hS => ?_)
  obtain ⟨x7, rfl⟩ : ∃ z, z = u := ⟨_, rfl⟩
  have hP : va_P D vwCl (wS cB sA x7) H := hP
  have hD : va_D A (wS cB sA x7) := hD
  refine lv_aload_n hx hb dJ5_append_3fe6f_10 rfl (lv_at hl 0 rfl) ?_
  refine z_RU (As := []) (rest := []) [0, 1] C (hG.kept hS.1 hS.2.1).none hP (c_J5_isLatin1_aae02 hfl hs0 D cI cB cJ sA x7 h) q380 u_J5_isLatin1_aae02 (hts _ q388) rfl rfl rfl rfl ⟨(Nat.le_of_ble_eq_true rfl), (Nat.le_of_ble_eq_true rfl)⟩ ⟨(Nat.le_of_ble_eq_true rfl), (Nat.le_of_ble_eq_true rfl)⟩ hl.1 rfl (lv_room (Nat.le_of_ble_eq_true rfl)) dJ5_append_3fe6f_11 (fun r11 h => ?_)
  refine lv_if_eq (tgt := 45) hx hb dJ5_append_3fe6f_14 (by decide) (fun c14 => ?_) (fun c14 => ?_)
  · have h := h.1 c14
    exact (show False from h).elim
  · have h := h.2 c14
    refine lv_iload_n hx hb dJ5_append_3fe6f_17 rfl (lv_at hl 1 rfl) ?_
    refine z_RS (As := [.int p0]) (rest := []) [] C (hG.kept hS.1 hS.2.1).none hP (c_J1_canEncode_fc78d hfl hs0 D cI cB cJ p0 h) q400 v_J1_canEncode_fc78d rfl rfl ⟨(Nat.le_of_ble_eq_true rfl), (Nat.le_of_ble_eq_true rfl)⟩ ⟨(Nat.le_of_ble_eq_true rfl), (Nat.le_of_ble_eq_true rfl)⟩ hl.1 rfl (lv_room (Nat.le_of_ble_eq_true rfl)) dJ5_append_3fe6f_18 (fun r18 h => ?_)
    refine lv_if_eq (tgt := 45) hx hb dJ5_append_3fe6f_21 (by decide) (fun c21 => ?_) (fun c21 => ?_)
    · have h := h.1 c21
      exact (show False from h).elim
    · have h := h.2 c21
      refine lv_aload_n hx hb dJ5_append_3fe6f_24 rfl (lv_at hl 0 rfl) ?_
      refine z_get C f_J5_15 hP (q0 := 0) rfl rfl dJ5_append_3fe6f_25 ?_
      refine lv_aload_n hx hb dJ5_append_3fe6f_28 rfl (lv_at hl 0 rfl) ?_
      refine lv_dup hx hb dJ5_append_3fe6f_29 rfl ?_
      refine z_get C f_J5_79 hP (q0 := 0) rfl rfl dJ5_append_3fe6f_30 ?_
      refine lv_dup_x1 hx hb dJ5_append_3fe6f_33 rfl rfl ?_
      refine lv_iconst (v := 1) hx hb dJ5_append_3fe6f_34 (by decide) ?_
      refine lv_iadd hx hb dJ5_append_3fe6f_35 ?_
      refine z_put C f_J5_79 zt_J4 rfl rfl rfl rfl hP hD hS (q0 := 0) rfl (Nat.le_of_ble_eq_true rfl) dJ5_append_3fe6f_36 (fun H locs hP hD hS => ?_)
      have hP : va_P D vwCl (wS cB sA (x7.1, x7.2.1, x7.2.2.1, (x7.2.2.2 + 1))) H := hP
      have hD : va_D A (wS cB sA (x7.1, x7.2.1, x7.2.2.1, (x7.2.2.2 + 1))) := hD
      refine lv_iload_n hx hb dJ5_append_3fe6f_39 rfl (lv_at hl 1 rfl) ?_
      refine lv_i2b hx hb dJ5_append_3fe6f_40 rfl ?_
      obtain ⟨g9, h⟩ := h
      refine va_bast hx hb hK hP hD hS 1 1 rfl rfl g9 dJ5_append_3fe6f_41 (fun H locs hP hD hS => ?_)
      have hP : va_P D vwCl (wS cB sA (x7.1, (x7.2.1.1, (upd x7.2.1.2 x7.2.2.2.toNatClampNeg (vp_nar .byte p0.toInt8.toInt32))), x7.2.2.1, (x7.2.2.2 + 1))) H := hP
      have hD : va_D A (wS cB sA (x7.1, (x7.2.1.1, (upd x7.2.1.2 x7.2.2.2.toNatClampNeg (vp_nar .byte p0.toInt8.toInt32))), x7.2.2.1, (x7.2.2.2 + 1))) := hD
      refine lv_goto (tgt := 75) hx hb dJ5_append_3fe6f_42 (by decide) ?_
      refine lv_aload_n hx hb dJ5_append_3fe6f_75 rfl (lv_at hl 0 rfl) ?_
      exact zW_aret C (Or.inl ⟨_, rfl⟩) (x7.1, (x7.2.1.1, (upd x7.2.1.2 x7.2.2.2.toNatClampNeg (vp_nar .byte p0.toInt8.toInt32))), x7.2.2.1, (x7.2.2.2 + 1)) rfl h hP hD hS (Nat.le_of_ble_eq_true rfl) (Nat.le_of_ble_eq_true rfl) dJ5_append_3fe6f_76
def wpJ4_append_cf468 (post : SS → Prop) (x : SS) (p0 : Int32) : Prop := wpJ5_append_3fe6f (fun x2 => post x2) x p0
set_option maxHeartbeats 4000000 in
set_option maxRecDepth 100000 in
theorem c_J4_append_cf468 {l : Launch} (hfl : l.stackTraces = false) {s0 : State} (hs0 : zS s0) (D : va_G) (cI cB cJ : ClassId) (sA : Nat → Nat) (x : SS) (p0 : Int32) {post : SS → Prop} (h : wpJ4_append_cf468 post x p0) : zW s0 l D (zty cI cB cJ) yJ4_append_cf468 cJ4_append_cf468 2 (some (.object "java/lang/StringBuilder")) 6 1 34 [.ref (sA 0), .int p0] (wS cB sA x) (fun _ : SS => some (Value.ref (sA 0))) (fun u : SS => post u) (fun u : SS => wS cB sA u) := by
  refine zW_intro (by decide +kernel) (Nat.le_of_ble_eq_true rfl) ?_
  intro p e s m below meth c A C hnm hA hG hP hD hS ls hl
  have C : zC D (zty cI cB cJ) p s m ([.ref (sA 0), .int p0] : List Value).toArray meth c cJ4_append_cf468 RJ4 (some (.object "java/lang/StringBuilder")) 2 := C
  have hx := C.1
  have hb := C.2.1
  have hts := C.2.2.1
  have hown := C.2.2.2.1
  have hml := C.2.2.2.2.2.1
  have hK := C.2.2.2.2.2.2.2
  have hl : lv_has ls 2 [(0, .ref (sA 0)), (1, .int p0)] := hl
  have hP : va_P D vwCl (wS cB sA x) s.heap := hP
  have hD : va_D A (wS cB sA x) := hD
  unfold wpJ4_append_cf468 at h
  refine lv_aload_n hx hb dJ4_append_cf468_0 rfl (lv_at hl 0 rfl) ?_
  refine lv_iload_n hx hb dJ4_append_cf468_1 rfl (lv_at hl 1 rfl) ?_
  refine z_WSU (As := [.int p0]) (rest := []) (wr := ([] : va_W)) (wN := (fun u : SS => wS cB sA u)) [0, 1] [] [0, 1] C hG hA hP hD hS (c_J5_append_3fe6f hfl hs0 D cI cB cJ sA x p0 h) q404 u_J5_append_3fe6f q399 (by decide) rfl rfl ⟨by decide, by decide, by decide⟩ (by decide) (fun _ => rfl) rfl rfl rfl ⟨(Nat.le_of_ble_eq_true rfl), (Nat.le_of_ble_eq_true rfl)⟩ ⟨(Nat.le_of_ble_eq_true rfl), (Nat.le_of_ble_eq_true rfl)⟩ hl.1 rfl (lv_room (Nat.le_of_ble_eq_true rfl)) dJ4_append_cf468_2 (fun u H locs h hP hD hS => ?_)
  obtain ⟨x2, rfl⟩ : ∃ z, z = u := ⟨_, rfl⟩
  have hP : va_P D vwCl (wS cB sA x2) H := hP
  have hD : va_D A (wS cB sA x2) := hD
  refine lv_pop hx hb dJ4_append_cf468_5 rfl ?_
  refine lv_aload_n hx hb dJ4_append_cf468_6 rfl (lv_at hl 0 rfl) ?_
  exact zW_aret C (Or.inl ⟨_, rfl⟩) x2 rfl h hP hD hS (Nat.le_of_ble_eq_true rfl) (Nat.le_of_ble_eq_true rfl) dJ4_append_cf468_7
def wpJ0_coder_7d493 (post : Int32 → Prop) (kn : Nat) (kf : (Nat → Int32)) : Prop := ((1 : Int32) = 0 → post 1) ∧ (¬ (1 : Int32) = 0 → post 0)
set_option maxHeartbeats 4000000 in
set_option maxRecDepth 100000 in
theorem c_J0_coder_7d493 {l : Launch} (hfl : l.stackTraces = false) {s0 : State} (hs0 : zS s0) (D : va_G) (cI cB cJ : ClassId) (kA : Nat → Nat) (kn : Nat) (kf : (Nat → Int32)) (hk : zK s0 (kA 0) (kA 1) kn kf) {post : Int32 → Prop} (h : wpJ0_coder_7d493 post kn kf) : zR s0 l D (zty cI cB cJ) yJ0_coder_7d493 cJ0_coder_7d493 1 (some .byte) 1 [.ref (kA 0)] (([] : va_W)) (fun u : Int32 => some (Value.int u)) (fun u : Int32 => post u) := by
  refine zR_intro (by decide +kernel) (Nat.le_of_ble_eq_true rfl) ?_
  intro p e s m below meth c C hP hG ls hl
  have C : zC D (zty cI cB cJ) p s m ([.ref (kA 0)] : List Value).toArray meth c cJ0_coder_7d493 RJ0 (some .byte) 1 := C
  have hx := C.1
  have hb := C.2.1
  have hts := C.2.2.1
  have hown := C.2.2.2.1
  have hml := C.2.2.2.2.2.1
  have hK := C.2.2.2.2.2.2.2
  have hl : lv_has ls 1 [(0, .ref (kA 0))] := hl
  unfold wpJ0_coder_7d493 at h
  refine va_gets hx hb (z_CS hs0 hG) va_S.rf hown (hts _ q408) (fun _ h => h) dJ0_coder_7d493_0 ?_
  refine lv_if_eq (tgt := 13) hx hb dJ0_coder_7d493_3 (by decide) (fun c3 => ?_) (fun c3 => ?_)
  · have h := h.1 c3
    refine lv_iconst (v := 1) hx hb dJ0_coder_7d493_13 (by decide) ?_
    exact zR_zret C rfl 1 rfl h dJ0_coder_7d493_14
  · have h := h.2 c3
    refine lv_aload_n hx hb dJ0_coder_7d493_6 rfl (lv_at hl 0 rfl) ?_
    refine vk_getf hx hb (hk.c hG) va_S.rf hown (hts _ q409) (fun _ h => h) dJ0_coder_7d493_7 ?_
    refine lv_goto (tgt := 14) hx hb dJ0_coder_7d493_10 (by decide) ?_
    exact zR_zret C rfl 0 rfl h dJ0_coder_7d493_14
def wpJ0_length_8abf5 (post : Int32 → Prop) (kn : Nat) (kf : (Nat → Int32)) : Prop := wpJ0_coder_7d493 (fun r6 => post ((Int32.ofNat kn) >>> (r6 &&& 31))) kn kf
set_option maxHeartbeats 4000000 in
set_option maxRecDepth 100000 in
theorem c_J0_length_8abf5 {l : Launch} (hfl : l.stackTraces = false) {s0 : State} (hs0 : zS s0) (D : va_G) (cI cB cJ : ClassId) (kA : Nat → Nat) (kn : Nat) (kf : (Nat → Int32)) (hk : zK s0 (kA 0) (kA 1) kn kf) {post : Int32 → Prop} (h : wpJ0_length_8abf5 post kn kf) : zR s0 l D (zty cI cB cJ) yJ0_length_8abf5 cJ0_length_8abf5 1 (some .int) 2 [.ref (kA 0)] (([] : va_W)) (fun u : Int32 => some (Value.int u)) (fun u : Int32 => post u) := by
  refine zR_intro (by decide +kernel) (Nat.le_of_ble_eq_true rfl) ?_
  intro p e s m below meth c C hP hG ls hl
  have C : zC D (zty cI cB cJ) p s m ([.ref (kA 0)] : List Value).toArray meth c cJ0_length_8abf5 RJ0 (some .int) 1 := C
  have hx := C.1
  have hb := C.2.1
  have hts := C.2.2.1
  have hown := C.2.2.2.1
  have hml := C.2.2.2.2.2.1
  have hK := C.2.2.2.2.2.2.2
  have hl : lv_has ls 1 [(0, .ref (kA 0))] := hl
  unfold wpJ0_length_8abf5 at h
  refine lv_aload_n hx hb dJ0_length_8abf5_0 rfl (lv_at hl 0 rfl) ?_
  refine vk_getf hx hb (hk.w hG) va_S.rf hown (hts _ q410) (fun _ h => h) dJ0_length_8abf5_1 ?_
  refine va_tlen hx hb (hk.t hG) va_S.rf rfl dJ0_length_8abf5_4 ?_
  refine lv_aload_n hx hb dJ0_length_8abf5_5 rfl (lv_at hl 0 rfl) ?_
  refine z_RVK (As := []) (rest := [.int (Int32.ofNat kn)]) [] C hG hP (c_J0_coder_7d493 hfl hs0 D cI cB cJ kA kn kf hk h) q411 v_J0_coder_7d493 rfl (hk.rec hG va_S.rf) rfl ⟨(Nat.le_of_ble_eq_true rfl), (Nat.le_of_ble_eq_true rfl)⟩ ⟨(Nat.le_of_ble_eq_true rfl), (Nat.le_of_ble_eq_true rfl)⟩ hl.1 rfl (lv_room (Nat.le_of_ble_eq_true rfl)) dJ0_length_8abf5_6 (fun r6 h => ?_)
  refine lv_ishr hx hb dJ0_length_8abf5_9 ?_
  exact zR_iret C ((Int32.ofNat kn) >>> (r6 &&& 31)) rfl h dJ0_length_8abf5_10
def wpJ5_inflateIfNeededFor_a7421 (post : Prop) (kn : Nat) (kf : (Nat → Int32)) (x : SS) : Prop := ((1 : Int32) = 0 → post) ∧ (¬ (1 : Int32) = 0 → wpJ0_coder_7d493 (fun r11 => (0 = r11 → post) ∧ (¬ 0 = r11 → False)) kn kf)
set_option maxHeartbeats 4000000 in
set_option maxRecDepth 100000 in
theorem c_J5_inflateIfNeededFor_a7421 {l : Launch} (hfl : l.stackTraces = false) {s0 : State} (hs0 : zS s0) (D : va_G) (cI cB cJ : ClassId) (sA : Nat → Nat) (kA : Nat → Nat) (kn : Nat) (kf : (Nat → Int32)) (x : SS) (hk : zK s0 (kA 0) (kA 1) kn kf) {post : Prop} (h : wpJ5_inflateIfNeededFor_a7421 post kn kf x) : zR s0 l D (zty cI cB cJ) yJ5_inflateIfNeededFor_a7421 cJ5_inflateIfNeededFor_a7421 2 none 2 [.ref (sA 0), .ref (kA 0)] (wS cB sA x) (fun _ : Unit => none) (fun _ : Unit => post) := by
  refine zR_intro (by decide +kernel) (Nat.le_of_ble_eq_true rfl) ?_
  intro p e s m below meth c C hP hG ls hl
  have C : zC D (zty cI cB cJ) p s m ([.ref (sA 0), .ref (kA 0)] : List Value).toArray meth c cJ5_inflateIfNeededFor_a7421 RJ5 none 2 := C
  have hx := C.1
  have hb := C.2.1
  have hts := C.2.2.1
  have hown := C.2.2.2.1
  have hml := C.2.2.2.2.2.1
  have hK := C.2.2.2.2.2.2.2
  have hl : lv_has ls 2 [(0, .ref (sA 0)), (1, .ref (kA 0))] := hl
  unfold wpJ5_inflateIfNeededFor_a7421 at h
  refine va_gets hx hb (z_CS hs0 hG) va_S.rf hown (hts _ q345) (fun _ h => h) dJ5_inflateIfNeededFor_a7421_0 ?_
  refine lv_if_eq (tgt := 21) hx hb dJ5_inflateIfNeededFor_a7421_3 (by decide) (fun c3 => ?_) (fun c3 => ?_)
  · have h := h.1 c3
    exact zR_vret C () rfl h dJ5_inflateIfNeededFor_a7421_21
  · have h := h.2 c3
    refine lv_aload_n hx hb dJ5_inflateIfNeededFor_a7421_6 rfl (lv_at hl 0 rfl) ?_
    refine z_get C f_J5_22 hP (q0 := 0) rfl rfl dJ5_inflateIfNeededFor_a7421_7 ?_
    refine lv_aload_n hx hb dJ5_inflateIfNeededFor_a7421_10 rfl (lv_at hl 1 rfl) ?_
    refine z_RVK (As := []) (rest := [.int 0]) [] C hG hP (c_J0_coder_7d493 hfl hs0 D cI cB cJ kA kn kf hk h) q416 v_J0_coder_7d493 rfl (hk.rec hG va_S.rf) rfl ⟨(Nat.le_of_ble_eq_true rfl), (Nat.le_of_ble_eq_true rfl)⟩ ⟨(Nat.le_of_ble_eq_true rfl), (Nat.le_of_ble_eq_true rfl)⟩ hl.1 rfl (lv_room (Nat.le_of_ble_eq_true rfl)) dJ5_inflateIfNeededFor_a7421_11 (fun r11 h => ?_)
    refine lv_icmp_eq (tgt := 21) hx hb dJ5_inflateIfNeededFor_a7421_14 (by decide) (fun c14 => ?_) (fun c14 => ?_)
    · have h := h.1 c14
      exact zR_vret C () rfl h dJ5_inflateIfNeededFor_a7421_21
    · have h := h.2 c14
      exact (show False from h).elim
def wpJ0_getBytes_840e7 (post : YS → Prop) (kn : Nat) (kf : (Nat → Int32)) (y : YS) (p1 : Int32) (p2 : Int32) : Prop := wpJ0_coder_7d493 (fun r1 => (r1 = p2 → ¬ (p1 <<< (p2 &&& 31)) < 0 ∧ ¬ (Int32.ofNat kn) < 0 ∧ (0 : Int32).toNatClampNeg + (Int32.ofNat kn).toNatClampNeg ≤ kn ∧ (p1 <<< (p2 &&& 31)).toNatClampNeg + (Int32.ofNat kn).toNatClampNeg ≤ y.1 ∧ (∀ i : Nat, i < (Int32.ofNat kn).toNatClampNeg → fits .byte (.int (kf ((0 : Int32).toNatClampNeg + i))) = true) ∧ (post (y.1, (va_cpy kf y.2 (0 : Int32).toNatClampNeg (p1 <<< (p2 &&& 31)).toNatClampNeg (Int32.ofNat kn).toNatClampNeg)))) ∧ (¬ r1 = p2 → False)) kn kf
set_option maxHeartbeats 4000000 in
set_option maxRecDepth 100000 in
theorem c_J0_getBytes_840e7 {l : Launch} (hfl : l.stackTraces = false) {s0 : State} (hs0 : zS s0) (D : va_G) (cI cB cJ : ClassId) (vA : Nat → Nat) (kA : Nat → Nat) (kn : Nat) (kf : (Nat → Int32)) (y : YS) (p1 : Int32) (p2 : Int32) (hk : zK s0 (kA 0) (kA 1) kn kf) {post : YS → Prop} (h : wpJ0_getBytes_840e7 post kn kf y p1 p2) : zW s0 l D (zty cI cB cJ) yJ0_getBytes_840e7 cJ0_getBytes_840e7 4 none 3 0 0 [.ref (kA 0), .ref (vA 0), .int p1, .int p2] (wY cB vA y) (fun _ : YS => none) (fun u : YS => post u) (fun u : YS => wY cB vA u) := by
  refine zW_intro (by decide +kernel) (Nat.le_of_ble_eq_true rfl) ?_
  intro p e s m below meth c A C hnm hA hG hP hD hS ls hl
  have C : zC D (zty cI cB cJ) p s m ([.ref (kA 0), .ref (vA 0), .int p1, .int p2] : List Value).toArray meth c cJ0_getBytes_840e7 RJ0 none 4 := C
  have hx := C.1
  have hb := C.2.1
  have hts := C.2.2.1
  have hown := C.2.2.2.1
  have hml := C.2.2.2.2.2.1
  have hK := C.2.2.2.2.2.2.2
  have hl : lv_has ls 4 [(0, .ref (kA 0)), (1, .ref (vA 0)), (2, .int p1), (3, .int p2)] := hl
  have hP : va_P D vwCl (wY cB vA y) s.heap := hP
  have hD : va_D A (wY cB vA y) := hD
  unfold wpJ0_getBytes_840e7 at h
  refine lv_aload_n hx hb dJ0_getBytes_840e7_0 rfl (lv_at hl 0 rfl) ?_
  refine z_RVK (As := []) (rest := []) [] C (hG.kept hS.1 hS.2.1).none hP (c_J0_coder_7d493 hfl hs0 D cI cB cJ kA kn kf hk h) q411 v_J0_coder_7d493 rfl (hk.rec hG hS) rfl ⟨(Nat.le_of_ble_eq_true rfl), (Nat.le_of_ble_eq_true rfl)⟩ ⟨(Nat.le_of_ble_eq_true rfl), (Nat.le_of_ble_eq_true rfl)⟩ hl.1 rfl (lv_room (Nat.le_of_ble_eq_true rfl)) dJ0_getBytes_840e7_1 (fun r1 h => ?_)
  refine lv_iload_n hx hb dJ0_getBytes_840e7_4 rfl (lv_at hl 3 rfl) ?_
  refine lv_icmp_ne (tgt := 28) hx hb dJ0_getBytes_840e7_5 (by decide) (fun c5 => ?_) (fun c5 => ?_)
  · have h := h.2 c5
    exact (show False from h).elim
  · have h := h.1 c5
    refine lv_aload_n hx hb dJ0_getBytes_840e7_8 rfl (lv_at hl 0 rfl) ?_
    refine vk_getf hx hb (hk.w hG) hS hown (hts _ q410) (fun _ h => h) dJ0_getBytes_840e7_9 ?_
    refine lv_iconst (v := 0) hx hb dJ0_getBytes_840e7_12 (by decide) ?_
    refine lv_aload_n hx hb dJ0_getBytes_840e7_13 rfl (lv_at hl 1 rfl) ?_
    refine lv_iload_n hx hb dJ0_getBytes_840e7_14 rfl (lv_at hl 2 rfl) ?_
    refine lv_iload_n hx hb dJ0_getBytes_840e7_15 rfl (lv_at hl 3 rfl) ?_
    refine lv_ishl hx hb dJ0_getBytes_840e7_16 ?_
    refine lv_aload_n hx hb dJ0_getBytes_840e7_17 rfl (lv_at hl 0 rfl) ?_
    refine vk_getf hx hb (hk.w hG) hS hown (hts _ q410) (fun _ h => h) dJ0_getBytes_840e7_18 ?_
    refine va_tlen hx hb (hk.t hG) hS rfl dJ0_getBytes_840e7_21 ?_
    obtain ⟨g1, g2, g3, g4, g5, h⟩ := h
    refine vk_copyt hx hb (hml.trans hl.1.symm) hown (hts _ q417) (hts _ q56) (hts _ q57) (hts _ q58) hK hP hD hS (hk.t hG) 0 1 rfl rfl (by decide) g1 g2 g3 g4 g5 (Nat.le_of_ble_eq_true rfl) (Nat.le_of_ble_eq_true rfl) dJ0_getBytes_840e7_22 (fun H locs hP hD hS => ?_)
    have hP : va_P D vwCl (wY cB vA (y.1, (va_cpy kf y.2 (0 : Int32).toNatClampNeg (p1 <<< (p2 &&& 31)).toNatClampNeg (Int32.ofNat kn).toNatClampNeg))) H := hP
    have hD : va_D A (wY cB vA (y.1, (va_cpy kf y.2 (0 : Int32).toNatClampNeg (p1 <<< (p2 &&& 31)).toNatClampNeg (Int32.ofNat kn).toNatClampNeg))) := hD
    refine lv_goto (tgt := 43) hx hb dJ0_getBytes_840e7_25 (by decide) ?_
    exact zW_vret C (y.1, (va_cpy kf y.2 (0 : Int32).toNatClampNeg (p1 <<< (p2 &&& 31)).toNatClampNeg (Int32.ofNat kn).toNatClampNeg)) rfl h hP hD hS (Nat.le_of_ble_eq_true rfl) (Nat.le_of_ble_eq_true rfl) dJ0_getBytes_840e7_43
def wpJ5_putStringAt_47b60 (post : SS → Prop) (kn : Nat) (kf : (Nat → Int32)) (x : SS) (p0 : Int32) : Prop := wpJ5_inflateIfNeededFor_a7421 (wpJ0_getBytes_840e7 (fun y15 => post (x.1, y15, x.2.2.1, x.2.2.2)) kn kf x.2.1 p0 0) kn kf x
set_option maxHeartbeats 4000000 in
set_option maxRecDepth 100000 in
theorem c_J5_putStringAt_47b60 {l : Launch} (hfl : l.stackTraces = false) {s0 : State} (hs0 : zS s0) (D : va_G) (cI cB cJ : ClassId) (sA : Nat → Nat) (kA : Nat → Nat) (kn : Nat) (kf : (Nat → Int32)) (x : SS) (p0 : Int32) (hk : zK s0 (kA 0) (kA 1) kn kf) {post : SS → Prop} (h : wpJ5_putStringAt_47b60 post kn kf x p0) : zW s0 l D (zty cI cB cJ) yJ5_putStringAt_47b60 cJ5_putStringAt_47b60 3 none 4 0 0 [.ref (sA 0), .int p0, .ref (kA 0)] (wS cB sA x) (fun _ : SS => none) (fun u : SS => post u) (fun u : SS => wS cB sA u) := by
  refine zW_intro (by decide +kernel) (Nat.le_of_ble_eq_true rfl) ?_
  intro p e s m below meth c A C hnm hA hG hP hD hS ls hl
  have C : zC D (zty cI cB cJ) p s m ([.ref (sA 0), .int p0, .ref (kA 0)] : List Value).toArray meth c cJ5_putStringAt_47b60 RJ5 none 3 := C
  have hx := C.1
  have hb := C.2.1
  have hts := C.2.2.1
  have hown := C.2.2.2.1
  have hml := C.2.2.2.2.2.1
  have hK := C.2.2.2.2.2.2.2
  have hl : lv_has ls 3 [(0, .ref (sA 0)), (1, .int p0), (2, .ref (kA 0))] := hl
  have hP : va_P D vwCl (wS cB sA x) s.heap := hP
  have hD : va_D A (wS cB sA x) := hD
  unfold wpJ5_putStringAt_47b60 at h
  refine lv_aload_n hx hb dJ5_putStringAt_47b60_0 rfl (lv_at hl 0 rfl) ?_
  refine lv_aload_n hx hb dJ5_putStringAt_47b60_1 rfl (lv_at hl 2 rfl) ?_
  refine z_RU (As := [.ref (kA 0)]) (rest := []) [0, 1] C (hG.kept hS.1 hS.2.1).none hP (c_J5_inflateIfNeededFor_a7421 hfl hs0 D cI cB cJ sA kA kn kf x hk h) q418 u_J5_inflateIfNeededFor_a7421 (hts _ q426) rfl rfl rfl rfl ⟨(Nat.le_of_ble_eq_true rfl), (Nat.le_of_ble_eq_true rfl)⟩ ⟨(Nat.le_of_ble_eq_true rfl), (Nat.le_of_ble_eq_true rfl)⟩ hl.1 rfl (lv_room (Nat.le_of_ble_eq_true rfl)) dJ5_putStringAt_47b60_2 (fun u h => ?_)
  refine lv_aload_n hx hb dJ5_putStringAt_47b60_5 rfl (lv_at hl 2 rfl) ?_
  refine lv_aload_n hx hb dJ5_putStringAt_47b60_6 rfl (lv_at hl 0 rfl) ?_
  refine z_get C f_J5_15 hP (q0 := 0) rfl rfl dJ5_putStringAt_47b60_7 ?_
  refine lv_iload_n hx hb dJ5_putStringAt_47b60_10 rfl (lv_at hl 1 rfl) ?_
  refine lv_aload_n hx hb dJ5_putStringAt_47b60_11 rfl (lv_at hl 0 rfl) ?_
  refine z_get C f_J5_22 hP (q0 := 0) rfl rfl dJ5_putStringAt_47b60_12 ?_
  refine z_WVK (As := [.ref x.1, .int p0, .int 0]) (rest := []) (wr := (List.filterMap (fun i => (wS cB sA x)[i]?) [0])) (wN := (fun u : YS => wS cB sA (x.1, u, x.2.2.1, x.2.2.2))) [1] [0] [0, 1] C hG hA hP hD hS (c_J0_getBytes_840e7 hfl hs0 D cI cB cJ (fun _ : Nat => x.1) kA kn kf x.2.1 p0 0 hk h) q419 v_J0_getBytes_840e7 rfl rfl ⟨by decide, by decide, by decide⟩ (by decide) (fun _ => rfl) (hk.rec hG hS) rfl ⟨(Nat.le_of_ble_eq_true rfl), (Nat.le_of_ble_eq_true rfl)⟩ ⟨(Nat.le_of_ble_eq_true rfl), (Nat.le_of_ble_eq_true rfl)⟩ hl.1 rfl (lv_room (Nat.le_of_ble_eq_true rfl)) dJ5_putStringAt_47b60_15 (fun u H locs h hP hD hS => ?_)
  obtain ⟨y15, rfl⟩ : ∃ z, z = u := ⟨_, rfl⟩
  have hP : va_P D vwCl (wS cB sA (x.1, y15, x.2.2.1, x.2.2.2)) H := hP
  have hD : va_D A (wS cB sA (x.1, y15, x.2.2.1, x.2.2.2)) := hD
  exact zW_vret C (x.1, y15, x.2.2.1, x.2.2.2) rfl h hP hD hS (Nat.le_of_ble_eq_true rfl) (Nat.le_of_ble_eq_true rfl) dJ5_putStringAt_47b60_18
def wpJ5_append_cf1ce (post : SS → Prop) (kn : Nat) (kf : (Nat → Int32)) (x : SS) : Prop := wpJ0_length_8abf5 (fun r10 => wpJ5_ensureCapacityInternal_d00df (fun x21 => wpJ5_putStringAt_47b60 (fun x30 => post (x30.1, x30.2.1, x30.2.2.1, (x30.2.2.2 + r10))) kn kf x21 x21.2.2.2) x (x.2.2.2 + r10)) kn kf
set_option maxHeartbeats 4000000 in
set_option maxRecDepth 100000 in
theorem c_J5_append_cf1ce {l : Launch} (hfl : l.stackTraces = false) {s0 : State} (hs0 : zS s0) (D : va_G) (cI cB cJ : ClassId) (sA : Nat → Nat) (kA : Nat → Nat) (kn : Nat) (kf : (Nat → Int32)) (x : SS) (hk : zK s0 (kA 0) (kA 1) kn kf) {post : SS → Prop} (h : wpJ5_append_cf1ce post kn kf x) : zW s0 l D (zty cI cB cJ) yJ5_append_cf1ce cJ5_append_cf1ce 3 (some (.object "java/lang/AbstractStringBuilder")) 5 1 34 [.ref (sA 0), .ref (kA 0)] (wS cB sA x) (fun _ : SS => some (Value.ref (sA 0))) (fun u : SS => post u) (fun u : SS => wS cB sA u) := by
  refine zW_intro (by decide +kernel) (Nat.le_of_ble_eq_true rfl) ?_
  intro p e s m below meth c A C hnm hA hG hP hD hS ls hl
  have C : zC D (zty cI cB cJ) p s m ([.ref (sA 0), .ref (kA 0)] : List Value).toArray meth c cJ5_append_cf1ce RJ5 (some (.object "java/lang/AbstractStringBuilder")) 3 := C
  have hx := C.1
  have hb := C.2.1
  have hts := C.2.2.1
  have hown := C.2.2.2.1
  have hml := C.2.2.2.2.2.1
  have hK := C.2.2.2.2.2.2.2
  have hl : lv_has ls 3 [(0, .ref (sA 0)), (1, .ref (kA 0))] := hl
  have hP : va_P D vwCl (wS cB sA x) s.heap := hP
  have hD : va_D A (wS cB sA x) := hD
  unfold wpJ5_append_cf1ce at h
  refine lv_aload_n hx hb dJ5_append_cf1ce_0 rfl (lv_at hl 1 rfl) ?_
  refine lv_ifnonnull (tgt := 9) hx hb dJ5_append_cf1ce_1 (by decide) ?_
  refine lv_aload_n hx hb dJ5_append_cf1ce_9 rfl (lv_at hl 1 rfl) ?_
  refine z_RVK (As := []) (rest := []) [] C (hG.kept hS.1 hS.2.1).none hP (c_J0_length_8abf5 hfl hs0 D cI cB cJ kA kn kf hk h) q427 v_J0_length_8abf5 rfl (hk.rec hG hS) rfl ⟨(Nat.le_of_ble_eq_true rfl), (Nat.le_of_ble_eq_true rfl)⟩ ⟨(Nat.le_of_ble_eq_true rfl), (Nat.le_of_ble_eq_true rfl)⟩ hl.1 rfl (lv_room (Nat.le_of_ble_eq_true rfl)) dJ5_append_cf1ce_10 (fun r10 h => ?_)
  refine lv_istore_n (lv' := [(2, .int r10), (0, .ref (sA 0)), (1, .ref (kA 0))]) hx hb dJ5_append_cf1ce_13 rfl hl (by decide) rfl (fun ls hl => ?_)
  refine lv_aload_n hx hb dJ5_append_cf1ce_14 rfl (lv_at hl 1 rfl) ?_
  refine lv_aload_n hx hb dJ5_append_cf1ce_15 rfl (lv_at hl 1 rfl) ?_
  refine z_get C f_J5_79 hP (q0 := 0) rfl rfl dJ5_append_cf1ce_16 ?_
  refine lv_iload_n hx hb dJ5_append_cf1ce_19 rfl (lv_at hl 0 rfl) ?_
  refine lv_iadd hx hb dJ5_append_cf1ce_20 ?_
  refine z_WU (As := [.int (x.2.2.2 + r10)]) (rest := []) (wr := ([] : va_W)) (wN := (fun u : SS => wS cB sA u)) [0, 1] [] [0, 1] C hG hA hP hD hS (c_J5_ensureCapacityInternal_d00df hfl hs0 D cI cB cJ sA x (x.2.2.2 + r10) h) q379 u_J5_ensureCapacityInternal_d00df (hts _ q392) rfl rfl ⟨by decide, by decide, by decide⟩ (by decide) (fun _ => rfl) rfl rfl rfl ⟨(Nat.le_of_ble_eq_true rfl), (Nat.le_of_ble_eq_true rfl)⟩ ⟨(Nat.le_of_ble_eq_true rfl), (Nat.le_of_ble_eq_true rfl)⟩ hl.1 rfl (lv_room (Nat.le_of_ble_eq_true rfl)) dJ5_append_cf1ce_21 (fun u H locs h hP hD hS => ?_)
  obtain ⟨x21, rfl⟩ : ∃ z, z = u := ⟨_, rfl⟩
  have hP : va_P D vwCl (wS cB sA x21) H := hP
  have hD : va_D A (wS cB sA x21) := hD
  refine lv_aload_n hx hb dJ5_append_cf1ce_24 rfl (lv_at hl 1 rfl) ?_
  refine lv_aload_n hx hb dJ5_append_cf1ce_25 rfl (lv_at hl 1 rfl) ?_
  refine z_get C f_J5_79 hP (q0 := 0) rfl rfl dJ5_append_cf1ce_26 ?_
  refine lv_aload_n hx hb dJ5_append_cf1ce_29 rfl (lv_at hl 2 rfl) ?_
  refine z_WU (As := [.int x21.2.2.2, .ref (kA 0)]) (rest := []) (wr := ([] : va_W)) (wN := (fun u : SS => wS cB sA u)) [0, 1] [] [0, 1] C hG hA hP hD hS (c_J5_putStringAt_47b60 hfl hs0 D cI cB cJ sA kA kn kf x21 x21.2.2.2 hk h) q428 u_J5_putStringAt_47b60 (hts _ q432) rfl rfl ⟨by decide, by decide, by decide⟩ (by decide) (fun _ => rfl) rfl rfl rfl ⟨(Nat.le_of_ble_eq_true rfl), (Nat.le_of_ble_eq_true rfl)⟩ ⟨(Nat.le_of_ble_eq_true rfl), (Nat.le_of_ble_eq_true rfl)⟩ hl.1 rfl (lv_room (Nat.le_of_ble_eq_true rfl)) dJ5_append_cf1ce_30 (fun u H locs h hP hD hS => ?_)
  obtain ⟨x30, rfl⟩ : ∃ z, z = u := ⟨_, rfl⟩
  have hP : va_P D vwCl (wS cB sA x30) H := hP
  have hD : va_D A (wS cB sA x30) := hD
  refine lv_aload_n hx hb dJ5_append_cf1ce_33 rfl (lv_at hl 1 rfl) ?_
  refine lv_dup hx hb dJ5_append_cf1ce_34 rfl ?_
  refine z_get C f_J5_79 hP (q0 := 0) rfl rfl dJ5_append_cf1ce_35 ?_
  refine lv_iload_n hx hb dJ5_append_cf1ce_38 rfl (lv_at hl 0 rfl) ?_
  refine lv_iadd hx hb dJ5_append_cf1ce_39 ?_
  refine z_put C f_J5_79 zt_J4 rfl rfl rfl rfl hP hD hS (q0 := 0) rfl (Nat.le_of_ble_eq_true rfl) dJ5_append_cf1ce_40 (fun H locs hP hD hS => ?_)
  have hP : va_P D vwCl (wS cB sA (x30.1, x30.2.1, x30.2.2.1, (x30.2.2.2 + r10))) H := hP
  have hD : va_D A (wS cB sA (x30.1, x30.2.1, x30.2.2.1, (x30.2.2.2 + r10))) := hD
  refine lv_aload_n hx hb dJ5_append_cf1ce_43 rfl (lv_at hl 1 rfl) ?_
  exact zW_aret C (Or.inl ⟨_, rfl⟩) (x30.1, x30.2.1, x30.2.2.1, (x30.2.2.2 + r10)) rfl h hP hD hS (Nat.le_of_ble_eq_true rfl) (Nat.le_of_ble_eq_true rfl) dJ5_append_cf1ce_44
def wpJ4_append_15ec4 (post : SS → Prop) (kn : Nat) (kf : (Nat → Int32)) (x : SS) : Prop := wpJ5_append_cf1ce (fun x2 => post x2) kn kf x
set_option maxHeartbeats 4000000 in
set_option maxRecDepth 100000 in
theorem c_J4_append_15ec4 {l : Launch} (hfl : l.stackTraces = false) {s0 : State} (hs0 : zS s0) (D : va_G) (cI cB cJ : ClassId) (sA : Nat → Nat) (kA : Nat → Nat) (kn : Nat) (kf : (Nat → Int32)) (x : SS) (hk : zK s0 (kA 0) (kA 1) kn kf) {post : SS → Prop} (h : wpJ4_append_15ec4 post kn kf x) : zW s0 l D (zty cI cB cJ) yJ4_append_15ec4 cJ4_append_15ec4 2 (some (.object "java/lang/StringBuilder")) 6 1 34 [.ref (sA 0), .ref (kA 0)] (wS cB sA x) (fun _ : SS => some (Value.ref (sA 0))) (fun u : SS => post u) (fun u : SS => wS cB sA u) := by
  refine zW_intro (by decide +kernel) (Nat.le_of_ble_eq_true rfl) ?_
  intro p e s m below meth c A C hnm hA hG hP hD hS ls hl
  have C : zC D (zty cI cB cJ) p s m ([.ref (sA 0), .ref (kA 0)] : List Value).toArray meth c cJ4_append_15ec4 RJ4 (some (.object "java/lang/StringBuilder")) 2 := C
  have hx := C.1
  have hb := C.2.1
  have hts := C.2.2.1
  have hown := C.2.2.2.1
  have hml := C.2.2.2.2.2.1
  have hK := C.2.2.2.2.2.2.2
  have hl : lv_has ls 2 [(0, .ref (sA 0)), (1, .ref (kA 0))] := hl
  have hP : va_P D vwCl (wS cB sA x) s.heap := hP
  have hD : va_D A (wS cB sA x) := hD
  unfold wpJ4_append_15ec4 at h
  refine lv_aload_n hx hb dJ4_append_15ec4_0 rfl (lv_at hl 0 rfl) ?_
  refine lv_aload_n hx hb dJ4_append_15ec4_1 rfl (lv_at hl 1 rfl) ?_
  refine z_WSU (As := [.ref (kA 0)]) (rest := []) (wr := ([] : va_W)) (wN := (fun u : SS => wS cB sA u)) [0, 1] [] [0, 1] C hG hA hP hD hS (c_J5_append_cf1ce hfl hs0 D cI cB cJ sA kA kn kf x hk h) q436 u_J5_append_cf1ce q399 (by decide) rfl rfl ⟨by decide, by decide, by decide⟩ (by decide) (fun _ => rfl) rfl rfl rfl ⟨(Nat.le_of_ble_eq_true rfl), (Nat.le_of_ble_eq_true rfl)⟩ ⟨(Nat.le_of_ble_eq_true rfl), (Nat.le_of_ble_eq_true rfl)⟩ hl.1 rfl (lv_room (Nat.le_of_ble_eq_true rfl)) dJ4_append_15ec4_2 (fun u H locs h hP hD hS => ?_)
  obtain ⟨x2, rfl⟩ : ∃ z, z = u := ⟨_, rfl⟩
  have hP : va_P D vwCl (wS cB sA x2) H := hP
  have hD : va_D A (wS cB sA x2) := hD
  refine lv_pop hx hb dJ4_append_15ec4_5 rfl ?_
  refine lv_aload_n hx hb dJ4_append_15ec4_6 rfl (lv_at hl 0 rfl) ?_
  exact zW_aret C (Or.inl ⟨_, rfl⟩) x2 rfl h hP hD hS (Nat.le_of_ble_eq_true rfl) (Nat.le_of_ble_eq_true rfl) dJ4_append_15ec4_7
def wpJ5_length_8abf5 (post : Int32 → Prop) (x : SS) : Prop := post x.2.2.2
set_option maxHeartbeats 4000000 in
set_option maxRecDepth 100000 in
theorem c_J5_length_8abf5 {l : Launch} (hfl : l.stackTraces = false) {s0 : State} (hs0 : zS s0) (D : va_G) (cI cB cJ : ClassId) (sA : Nat → Nat) (x : SS) {post : Int32 → Prop} (h : wpJ5_length_8abf5 post x) : zR s0 l D (zty cI cB cJ) yJ5_length_8abf5 cJ5_length_8abf5 1 (some .int) 1 [.ref (sA 0)] (wS cB sA x) (fun u : Int32 => some (Value.int u)) (fun u : Int32 => post u) := by
  refine zR_intro (by decide +kernel) (Nat.le_of_ble_eq_true rfl) ?_
  intro p e s m below meth c C hP hG ls hl
  have C : zC D (zty cI cB cJ) p s m ([.ref (sA 0)] : List Value).toArray meth c cJ5_length_8abf5 RJ5 (some .int) 1 := C
  have hx := C.1
  have hb := C.2.1
  have hts := C.2.2.1
  have hown := C.2.2.2.1
  have hml := C.2.2.2.2.2.1
  have hK := C.2.2.2.2.2.2.2
  have hl : lv_has ls 1 [(0, .ref (sA 0))] := hl
  unfold wpJ5_length_8abf5 at h
  refine lv_aload_n hx hb dJ5_length_8abf5_0 rfl (lv_at hl 0 rfl) ?_
  refine z_get C f_J5_79 hP (q0 := 0) rfl rfl dJ5_length_8abf5_1 ?_
  exact zR_iret C x.2.2.2 rfl h dJ5_length_8abf5_4
def wpJ4_length_8abf5 (post : Int32 → Prop) (x : SS) : Prop := wpJ5_length_8abf5 (fun r1 => post r1) x
set_option maxHeartbeats 4000000 in
set_option maxRecDepth 100000 in
theorem c_J4_length_8abf5 {l : Launch} (hfl : l.stackTraces = false) {s0 : State} (hs0 : zS s0) (D : va_G) (cI cB cJ : ClassId) (sA : Nat → Nat) (x : SS) {post : Int32 → Prop} (h : wpJ4_length_8abf5 post x) : zR s0 l D (zty cI cB cJ) yJ4_length_8abf5 cJ4_length_8abf5 1 (some .int) 2 [.ref (sA 0)] (wS cB sA x) (fun u : Int32 => some (Value.int u)) (fun u : Int32 => post u) := by
  refine zR_intro (by decide +kernel) (Nat.le_of_ble_eq_true rfl) ?_
  intro p e s m below meth c C hP hG ls hl
  have C : zC D (zty cI cB cJ) p s m ([.ref (sA 0)] : List Value).toArray meth c cJ4_length_8abf5 RJ4 (some .int) 1 := C
  have hx := C.1
  have hb := C.2.1
  have hts := C.2.2.1
  have hown := C.2.2.2.1
  have hml := C.2.2.2.2.2.1
  have hK := C.2.2.2.2.2.2.2
  have hl : lv_has ls 1 [(0, .ref (sA 0))] := hl
  unfold wpJ4_length_8abf5 at h
  refine lv_aload_n hx hb dJ4_length_8abf5_0 rfl (lv_at hl 0 rfl) ?_
  refine z_RSU (As := []) (rest := []) [0, 1] C hG hP (c_J5_length_8abf5 hfl hs0 D cI cB cJ sA x h) q440 u_J5_length_8abf5 q399 (by decide) rfl rfl rfl rfl ⟨(Nat.le_of_ble_eq_true rfl), (Nat.le_of_ble_eq_true rfl)⟩ ⟨(Nat.le_of_ble_eq_true rfl), (Nat.le_of_ble_eq_true rfl)⟩ hl.1 rfl (lv_room (Nat.le_of_ble_eq_true rfl)) dJ4_length_8abf5_1 (fun r1 h => ?_)
  exact zR_iret C r1 rfl h dJ4_length_8abf5_4
def wpJ5_charAt_5068e (post : Int32 → Prop) (x : SS) (p0 : Int32) : Prop := wpJ0_checkIndex_df160 (((0 : Int32) = 0 → vp_in p0 x.2.1.1 ∧ (narrow .char (.int ((((x.2.1.2 p0.toNatClampNeg) &&& 255).toUInt32 % 65536).toInt32)) = .int ((((x.2.1.2 p0.toNatClampNeg) &&& 255).toUInt32 % 65536).toInt32) ∧ post ((((x.2.1.2 p0.toNatClampNeg) &&& 255).toUInt32 % 65536).toInt32))) ∧ (¬ (0 : Int32) = 0 → False)) p0 (if ((Int32.ofNat x.2.1.1) >>> ((0 : Int32) &&& 31)) < x.2.2.2 then ((Int32.ofNat x.2.1.1) >>> ((0 : Int32) &&& 31)) else x.2.2.2)
set_option maxHeartbeats 4000000 in
set_option maxRecDepth 100000 in
theorem c_J5_charAt_5068e {l : Launch} (hfl : l.stackTraces = false) {s0 : State} (hs0 : zS s0) (D : va_G) (cI cB cJ : ClassId) (sA : Nat → Nat) (x : SS) (p0 : Int32) {post : Int32 → Prop} (h : wpJ5_charAt_5068e post x p0) : zR s0 l D (zty cI cB cJ) yJ5_charAt_5068e cJ5_charAt_5068e 5 (some .char) 3 [.ref (sA 0), .int p0] (wS cB sA x) (fun u : Int32 => some (Value.int u)) (fun u : Int32 => post u) := by
  refine zR_intro (by decide +kernel) (Nat.le_of_ble_eq_true rfl) ?_
  intro p e s m below meth c C hP hG ls hl
  have C : zC D (zty cI cB cJ) p s m ([.ref (sA 0), .int p0] : List Value).toArray meth c cJ5_charAt_5068e RJ5 (some .char) 5 := C
  have hx := C.1
  have hb := C.2.1
  have hts := C.2.2.1
  have hown := C.2.2.2.1
  have hml := C.2.2.2.2.2.1
  have hK := C.2.2.2.2.2.2.2
  have hl : lv_has ls 5 [(0, .ref (sA 0)), (1, .int p0)] := hl
  unfold wpJ5_charAt_5068e at h
  refine lv_aload_n hx hb dJ5_charAt_5068e_0 rfl (lv_at hl 0 rfl) ?_
  refine z_get C f_J5_22 hP (q0 := 0) rfl rfl dJ5_charAt_5068e_1 ?_
  refine lv_istore_n (lv' := [(2, .int 0), (0, .ref (sA 0)), (1, .int p0)]) hx hb dJ5_charAt_5068e_4 rfl hl (by decide) rfl (fun ls hl => ?_)
  refine lv_aload_n hx hb dJ5_charAt_5068e_5 rfl (lv_at hl 1 rfl) ?_
  refine z_get C f_J5_15 hP (q0 := 0) rfl rfl dJ5_charAt_5068e_6 ?_
  refine lv_astore_n (lv' := [(3, .ref x.1), (2, .int 0), (0, .ref (sA 0)), (1, .int p0)]) hx hb dJ5_charAt_5068e_9 rfl hl (by decide) rfl (fun ls hl => ?_)
  refine lv_aload_n hx hb dJ5_charAt_5068e_10 rfl (lv_at hl 2 rfl) ?_
  refine z_get C f_J5_79 hP (q0 := 0) rfl rfl dJ5_charAt_5068e_11 ?_
  refine lv_aload_n hx hb dJ5_charAt_5068e_14 rfl (lv_at hl 0 rfl) ?_
  refine va_alen hx hb hK hP 1 1 rfl rfl rfl dJ5_charAt_5068e_15 ?_
  refine lv_iload_n hx hb dJ5_charAt_5068e_16 rfl (lv_at hl 1 rfl) ?_
  refine lv_ishr hx hb dJ5_charAt_5068e_17 ?_
  refine va_mmin hx hb (hml.trans hl.1.symm) hown (hts _ q447) (hts _ q43) (hts _ q44) (hts _ q45) (Nat.le_of_ble_eq_true rfl) (Nat.le_of_ble_eq_true rfl) (Nat.le_of_ble_eq_true rfl) (Nat.le_of_ble_eq_true rfl) dJ5_charAt_5068e_18 ?_
  refine lv_istore (lv' := [(4, .int (if ((Int32.ofNat x.2.1.1) >>> ((0 : Int32) &&& 31)) < x.2.2.2 then ((Int32.ofNat x.2.1.1) >>> ((0 : Int32) &&& 31)) else x.2.2.2)), (3, .ref x.1), (2, .int 0), (0, .ref (sA 0)), (1, .int p0)]) hx hb dJ5_charAt_5068e_21 hl (by decide) rfl (fun ls hl => ?_)
  refine lv_iload_n hx hb dJ5_charAt_5068e_23 rfl (lv_at hl 4 rfl) ?_
  refine lv_iload hx hb dJ5_charAt_5068e_24 (lv_at hl 0 rfl) ?_
  refine z_RS (As := [.int p0, .int (if ((Int32.ofNat x.2.1.1) >>> ((0 : Int32) &&& 31)) < x.2.2.2 then ((Int32.ofNat x.2.1.1) >>> ((0 : Int32) &&& 31)) else x.2.2.2)]) (rest := []) [] C hG hP (c_J0_checkIndex_df160 hfl hs0 D cI cB cJ p0 (if ((Int32.ofNat x.2.1.1) >>> ((0 : Int32) &&& 31)) < x.2.2.2 then ((Int32.ofNat x.2.1.1) >>> ((0 : Int32) &&& 31)) else x.2.2.2) h) q444 v_J0_checkIndex_df160 rfl rfl ⟨(Nat.le_of_ble_eq_true rfl), (Nat.le_of_ble_eq_true rfl)⟩ ⟨(Nat.le_of_ble_eq_true rfl), (Nat.le_of_ble_eq_true rfl)⟩ hl.1 rfl (lv_room (Nat.le_of_ble_eq_true rfl)) dJ5_charAt_5068e_26 (fun u h => ?_)
  refine lv_iload_n hx hb dJ5_charAt_5068e_29 rfl (lv_at hl 2 rfl) ?_
  refine lv_if_ne (tgt := 42) hx hb dJ5_charAt_5068e_30 (by decide) (fun c30 => ?_) (fun c30 => ?_)
  · have h := h.2 c30
    exact (show False from h).elim
  · have h := h.1 c30
    refine lv_aload_n hx hb dJ5_charAt_5068e_33 rfl (lv_at hl 1 rfl) ?_
    refine lv_iload_n hx hb dJ5_charAt_5068e_34 rfl (lv_at hl 4 rfl) ?_
    obtain ⟨g9, h⟩ := h
    refine va_bald hx hb hK hP 1 1 rfl rfl g9 dJ5_charAt_5068e_35 ?_
    refine lv_sipush (v := 255) hx hb dJ5_charAt_5068e_36 (by decide) ?_
    refine lv_iand hx hb dJ5_charAt_5068e_39 ?_
    refine lv_i2c hx hb dJ5_charAt_5068e_40 rfl ?_
    obtain ⟨g9, h⟩ := h
    exact zR_zret C g9 ((((x.2.1.2 p0.toNatClampNeg) &&& 255).toUInt32 % 65536).toInt32) rfl h dJ5_charAt_5068e_41
def wpJ4_charAt_5068e (post : Int32 → Prop) (x : SS) (p0 : Int32) : Prop := wpJ5_charAt_5068e (fun r2 => narrow .char (.int r2) = .int r2 ∧ post r2) x p0
set_option maxHeartbeats 4000000 in
set_option maxRecDepth 100000 in
theorem c_J4_charAt_5068e {l : Launch} (hfl : l.stackTraces = false) {s0 : State} (hs0 : zS s0) (D : va_G) (cI cB cJ : ClassId) (sA : Nat → Nat) (x : SS) (p0 : Int32) {post : Int32 → Prop} (h : wpJ4_charAt_5068e post x p0) : zR s0 l D (zty cI cB cJ) yJ4_charAt_5068e cJ4_charAt_5068e 2 (some .char) 4 [.ref (sA 0), .int p0] (wS cB sA x) (fun u : Int32 => some (Value.int u)) (fun u : Int32 => post u) := by
  refine zR_intro (by decide +kernel) (Nat.le_of_ble_eq_true rfl) ?_
  intro p e s m below meth c C hP hG ls hl
  have C : zC D (zty cI cB cJ) p s m ([.ref (sA 0), .int p0] : List Value).toArray meth c cJ4_charAt_5068e RJ4 (some .char) 2 := C
  have hx := C.1
  have hb := C.2.1
  have hts := C.2.2.1
  have hown := C.2.2.2.1
  have hml := C.2.2.2.2.2.1
  have hK := C.2.2.2.2.2.2.2
  have hl : lv_has ls 2 [(0, .ref (sA 0)), (1, .int p0)] := hl
  unfold wpJ4_charAt_5068e at h
  refine lv_aload_n hx hb dJ4_charAt_5068e_0 rfl (lv_at hl 0 rfl) ?_
  refine lv_iload_n hx hb dJ4_charAt_5068e_1 rfl (lv_at hl 1 rfl) ?_
  refine z_RSU (As := [.int p0]) (rest := []) [0, 1] C hG hP (c_J5_charAt_5068e hfl hs0 D cI cB cJ sA x p0 h) q448 u_J5_charAt_5068e q399 (by decide) rfl rfl rfl rfl ⟨(Nat.le_of_ble_eq_true rfl), (Nat.le_of_ble_eq_true rfl)⟩ ⟨(Nat.le_of_ble_eq_true rfl), (Nat.le_of_ble_eq_true rfl)⟩ hl.1 rfl (lv_room (Nat.le_of_ble_eq_true rfl)) dJ4_charAt_5068e_2 (fun r2 h => ?_)
  obtain ⟨g9, h⟩ := h
  exact zR_zret C g9 r2 rfl h dJ4_charAt_5068e_5
def wpJ5_setLength_d00df (post : SS → Prop) (x : SS) (p0 : Int32) : Prop := (0 ≤ p0 → wpJ5_ensureCapacityInternal_d00df (fun x15 => (p0 ≤ x15.2.2.2 → (x15.2.2.2 ≤ p0 → post (x15.1, x15.2.1, x15.2.2.1, p0)) ∧ (¬ x15.2.2.2 ≤ p0 → post (x15.1, x15.2.1, 1, p0))) ∧ (¬ p0 ≤ x15.2.2.2 → False)) x p0) ∧ (¬ 0 ≤ p0 → False)
set_option maxHeartbeats 4000000 in
set_option maxRecDepth 100000 in
theorem c_J5_setLength_d00df {l : Launch} (hfl : l.stackTraces = false) {s0 : State} (hs0 : zS s0) (D : va_G) (cI cB cJ : ClassId) (sA : Nat → Nat) (x : SS) (p0 : Int32) {post : SS → Prop} (h : wpJ5_setLength_d00df post x p0) : zW s0 l D (zty cI cB cJ) yJ5_setLength_d00df cJ5_setLength_d00df 2 none 5 1 34 [.ref (sA 0), .int p0] (wS cB sA x) (fun _ : SS => none) (fun u : SS => post u) (fun u : SS => wS cB sA u) := by
  refine zW_intro (by decide +kernel) (Nat.le_of_ble_eq_true rfl) ?_
  intro p e s m below meth c A C hnm hA hG hP hD hS ls hl
  have C : zC D (zty cI cB cJ) p s m ([.ref (sA 0), .int p0] : List Value).toArray meth c cJ5_setLength_d00df RJ5 none 2 := C
  have hx := C.1
  have hb := C.2.1
  have hts := C.2.2.1
  have hown := C.2.2.2.1
  have hml := C.2.2.2.2.2.1
  have hK := C.2.2.2.2.2.2.2
  have hl : lv_has ls 2 [(0, .ref (sA 0)), (1, .int p0)] := hl
  have hP : va_P D vwCl (wS cB sA x) s.heap := hP
  have hD : va_D A (wS cB sA x) := hD
  unfold wpJ5_setLength_d00df at h
  refine lv_iload_n hx hb dJ5_setLength_d00df_0 rfl (lv_at hl 1 rfl) ?_
  refine lv_if_ge (tgt := 13) hx hb dJ5_setLength_d00df_1 (by decide) (fun c1 => ?_) (fun c1 => ?_)
  · have h := h.1 c1
    refine lv_aload_n hx hb dJ5_setLength_d00df_13 rfl (lv_at hl 0 rfl) ?_
    refine lv_iload_n hx hb dJ5_setLength_d00df_14 rfl (lv_at hl 1 rfl) ?_
    refine z_WU (As := [.int p0]) (rest := []) (wr := ([] : va_W)) (wN := (fun u : SS => wS cB sA u)) [0, 1] [] [0, 1] C hG hA hP hD hS (c_J5_ensureCapacityInternal_d00df hfl hs0 D cI cB cJ sA x p0 h) q379 u_J5_ensureCapacityInternal_d00df (hts _ q392) rfl rfl ⟨by decide, by decide, by decide⟩ (by decide) (fun _ => rfl) rfl rfl rfl ⟨(Nat.le_of_ble_eq_true rfl), (Nat.le_of_ble_eq_true rfl)⟩ ⟨(Nat.le_of_ble_eq_true rfl), (Nat.le_of_ble_eq_true rfl)⟩ hl.1 rfl (lv_room (Nat.le_of_ble_eq_true rfl)) dJ5_setLength_d00df_15 (fun u H locs h hP hD hS => ?_)
    obtain ⟨x15, rfl⟩ : ∃ z, z = u := ⟨_, rfl⟩
    have hP : va_P D vwCl (wS cB sA x15) H := hP
    have hD : va_D A (wS cB sA x15) := hD
    refine lv_aload_n hx hb dJ5_setLength_d00df_18 rfl (lv_at hl 0 rfl) ?_
    refine z_get C f_J5_79 hP (q0 := 0) rfl rfl dJ5_setLength_d00df_19 ?_
    refine lv_iload_n hx hb dJ5_setLength_d00df_22 rfl (lv_at hl 1 rfl) ?_
    refine lv_icmp_ge (tgt := 63) hx hb dJ5_setLength_d00df_23 (by decide) (fun c23 => ?_) (fun c23 => ?_)
    · have h := h.1 c23
      refine lv_aload_n hx hb dJ5_setLength_d00df_63 rfl (lv_at hl 0 rfl) ?_
      refine z_get C f_J5_79 hP (q0 := 0) rfl rfl dJ5_setLength_d00df_64 ?_
      refine lv_iload_n hx hb dJ5_setLength_d00df_67 rfl (lv_at hl 1 rfl) ?_
      refine lv_icmp_le (tgt := 76) hx hb dJ5_setLength_d00df_68 (by decide) (fun c68 => ?_) (fun c68 => ?_)
      · have h := h.1 c68
        refine lv_aload_n hx hb dJ5_setLength_d00df_76 rfl (lv_at hl 0 rfl) ?_
        refine lv_iload_n hx hb dJ5_setLength_d00df_77 rfl (lv_at hl 1 rfl) ?_
        refine z_put C f_J5_79 zt_J4 rfl rfl rfl rfl hP hD hS (q0 := 0) rfl (Nat.le_of_ble_eq_true rfl) dJ5_setLength_d00df_78 (fun H locs hP hD hS => ?_)
        have hP : va_P D vwCl (wS cB sA (x15.1, x15.2.1, x15.2.2.1, p0)) H := hP
        have hD : va_D A (wS cB sA (x15.1, x15.2.1, x15.2.2.1, p0)) := hD
        exact zW_vret C (x15.1, x15.2.1, x15.2.2.1, p0) rfl h hP hD hS (Nat.le_of_ble_eq_true rfl) (Nat.le_of_ble_eq_true rfl) dJ5_setLength_d00df_81
      · have h := h.2 c68
        refine lv_aload_n hx hb dJ5_setLength_d00df_71 rfl (lv_at hl 0 rfl) ?_
        refine lv_iconst (v := 1) hx hb dJ5_setLength_d00df_72 (by decide) ?_
        refine z_put C f_J5_73 zt_J4 rfl rfl rfl rfl hP hD hS (q0 := 0) rfl (Nat.le_of_ble_eq_true rfl) dJ5_setLength_d00df_73 (fun H locs hP hD hS => ?_)
        have hP : va_P D vwCl (wS cB sA (x15.1, x15.2.1, 1, x15.2.2.2)) H := hP
        have hD : va_D A (wS cB sA (x15.1, x15.2.1, 1, x15.2.2.2)) := hD
        refine lv_aload_n hx hb dJ5_setLength_d00df_76 rfl (lv_at hl 0 rfl) ?_
        refine lv_iload_n hx hb dJ5_setLength_d00df_77 rfl (lv_at hl 1 rfl) ?_
        refine z_put C f_J5_79 zt_J4 rfl rfl rfl rfl hP hD hS (q0 := 0) rfl (Nat.le_of_ble_eq_true rfl) dJ5_setLength_d00df_78 (fun H locs hP hD hS => ?_)
        have hP : va_P D vwCl (wS cB sA (x15.1, x15.2.1, 1, p0)) H := hP
        have hD : va_D A (wS cB sA (x15.1, x15.2.1, 1, p0)) := hD
        exact zW_vret C (x15.1, x15.2.1, 1, p0) rfl h hP hD hS (Nat.le_of_ble_eq_true rfl) (Nat.le_of_ble_eq_true rfl) dJ5_setLength_d00df_81
    · have h := h.2 c23
      exact (show False from h).elim
  · have h := h.2 c1
    exact (show False from h).elim
def wpJ4_setLength_d00df (post : SS → Prop) (x : SS) (p0 : Int32) : Prop := wpJ5_setLength_d00df (fun x2 => post x2) x p0
set_option maxHeartbeats 4000000 in
set_option maxRecDepth 100000 in
theorem c_J4_setLength_d00df {l : Launch} (hfl : l.stackTraces = false) {s0 : State} (hs0 : zS s0) (D : va_G) (cI cB cJ : ClassId) (sA : Nat → Nat) (x : SS) (p0 : Int32) {post : SS → Prop} (h : wpJ4_setLength_d00df post x p0) : zW s0 l D (zty cI cB cJ) yJ4_setLength_d00df cJ4_setLength_d00df 2 none 6 1 34 [.ref (sA 0), .int p0] (wS cB sA x) (fun _ : SS => none) (fun u : SS => post u) (fun u : SS => wS cB sA u) := by
  refine zW_intro (by decide +kernel) (Nat.le_of_ble_eq_true rfl) ?_
  intro p e s m below meth c A C hnm hA hG hP hD hS ls hl
  have C : zC D (zty cI cB cJ) p s m ([.ref (sA 0), .int p0] : List Value).toArray meth c cJ4_setLength_d00df RJ4 none 2 := C
  have hx := C.1
  have hb := C.2.1
  have hts := C.2.2.1
  have hown := C.2.2.2.1
  have hml := C.2.2.2.2.2.1
  have hK := C.2.2.2.2.2.2.2
  have hl : lv_has ls 2 [(0, .ref (sA 0)), (1, .int p0)] := hl
  have hP : va_P D vwCl (wS cB sA x) s.heap := hP
  have hD : va_D A (wS cB sA x) := hD
  unfold wpJ4_setLength_d00df at h
  refine lv_aload_n hx hb dJ4_setLength_d00df_0 rfl (lv_at hl 0 rfl) ?_
  refine lv_iload_n hx hb dJ4_setLength_d00df_1 rfl (lv_at hl 1 rfl) ?_
  refine z_WSU (As := [.int p0]) (rest := []) (wr := ([] : va_W)) (wN := (fun u : SS => wS cB sA u)) [0, 1] [] [0, 1] C hG hA hP hD hS (c_J5_setLength_d00df hfl hs0 D cI cB cJ sA x p0 h) q453 u_J5_setLength_d00df q399 (by decide) rfl rfl ⟨by decide, by decide, by decide⟩ (by decide) (fun _ => rfl) rfl rfl rfl ⟨(Nat.le_of_ble_eq_true rfl), (Nat.le_of_ble_eq_true rfl)⟩ ⟨(Nat.le_of_ble_eq_true rfl), (Nat.le_of_ble_eq_true rfl)⟩ hl.1 rfl (lv_room (Nat.le_of_ble_eq_true rfl)) dJ4_setLength_d00df_2 (fun u H locs h hP hD hS => ?_)
  obtain ⟨x2, rfl⟩ : ∃ z, z = u := ⟨_, rfl⟩
  have hP : va_P D vwCl (wS cB sA x2) H := hP
  have hD : va_D A (wS cB sA x2) := hD
  exact zW_vret C x2 rfl h hP hD hS (Nat.le_of_ble_eq_true rfl) (Nat.le_of_ble_eq_true rfl) dJ4_setLength_d00df_5

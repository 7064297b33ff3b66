theorem q0 : (Jvm.Cond.fieldLink "PactClocks$Book" (15 : Nat) "PactClocks$Book" "states" "[I") ∈ lw_all := mt1 97 (by decide +kernel) (by decide +kernel)
theorem q1 : (Jvm.Cond.fieldLink "PactClocks$Book" (24 : Nat) "PactClocks$Book" "terms" "LPactClocks$Terms;") ∈ lw_all := mt1 94 (by decide +kernel) (by decide +kernel)
theorem q2 : (Jvm.Cond.fieldLink "PactClocks$Book" (38 : Nat) "PactClocks$Terms" "amount" "[I") ∈ lw_all := mt1 45 (by decide +kernel) (by decide +kernel)
theorem q3 : (Jvm.Cond.fieldLink "PactClocks$Book" (43 : Nat) "PactClocks$Terms" "penalty" "[I") ∈ lw_all := mt1 52 (by decide +kernel) (by decide +kernel)
theorem q4 : (Jvm.Cond.initialized "PactClocks$Book") ∈ lw_all := mt1 3 (by decide +kernel) (by decide +kernel)
theorem q5 : (Jvm.Cond.code ({ cls := "PactClocks$Book", name := "isOpen", desc := "(I)Z" } : Jvm.MethodName) prog_2_method_3_code (2 : Nat) (Option.some Jvm.ClassFile.FieldType.boolean)) ∈ lw_all := mt2 85 (by decide +kernel) (by decide +kernel)
theorem q6 : (Jvm.Cond.instanceMethod ({ cls := "PactClocks$Book", name := "isOpen", desc := "(I)Z" } : Jvm.MethodName)) ∈ lw_all := mt2 83 (by decide +kernel) (by decide +kernel)
theorem q7 : (Jvm.Cond.selects "PactClocks$Book" ({ cls := "PactClocks$Book", name := "isOpen", desc := "(I)Z" } : Jvm.MethodName) ({ cls := "PactClocks$Book", name := "isOpen", desc := "(I)Z" } : Jvm.MethodName)) ∈ lw_all := mt2 84 (by decide +kernel) (by decide +kernel)
theorem q8 : (Jvm.Cond.methodLink "PactClocks$Book" (46 : Nat) ({ cls := "PactClocks$Book", name := "isOpen", desc := "(I)Z" } : Jvm.MethodName)) ∈ lw_all := mt2 82 (by decide +kernel) (by decide +kernel)
theorem q9 : (Jvm.Cond.fieldLink "PactClocks$Book" (9 : Nat) "PactClocks$Book" "purses" "[I") ∈ lw_all := mt1 95 (by decide +kernel) (by decide +kernel)
theorem q10 : (Jvm.Cond.fieldLink "PactClocks$Book" (50 : Nat) "PactClocks$Terms" "debtor" "[I") ∈ lw_all := mt1 39 (by decide +kernel) (by decide +kernel)
theorem q11 : (Jvm.Cond.code ({ cls := "PactClocks$Book", name := "price", desc := "(I)I" } : Jvm.MethodName) prog_2_method_5_code (2 : Nat) (Option.some Jvm.ClassFile.FieldType.int)) ∈ lw_all := mt1 235 (by decide +kernel) (by decide +kernel)
theorem q12 : (Jvm.Cond.instanceMethod ({ cls := "PactClocks$Book", name := "price", desc := "(I)I" } : Jvm.MethodName)) ∈ lw_all := mt1 233 (by decide +kernel) (by decide +kernel)
theorem q13 : (Jvm.Cond.selects "PactClocks$Book" ({ cls := "PactClocks$Book", name := "price", desc := "(I)I" } : Jvm.MethodName) ({ cls := "PactClocks$Book", name := "price", desc := "(I)I" } : Jvm.MethodName)) ∈ lw_all := mt1 234 (by decide +kernel) (by decide +kernel)
theorem q14 : (Jvm.Cond.methodLink "PactClocks$Book" (53 : Nat) ({ cls := "PactClocks$Book", name := "price", desc := "(I)I" } : Jvm.MethodName)) ∈ lw_all := mt2 65 (by decide +kernel) (by decide +kernel)
theorem q15 : (Jvm.Cond.fieldLink "PactClocks$Book" (18 : Nat) "PactClocks$Book" "left" "[I") ∈ lw_all := mt1 99 (by decide +kernel) (by decide +kernel)
theorem q16 : (Jvm.Cond.fieldLink "PactClocks$Book" (68 : Nat) "PactClocks$Terms" "days" "[I") ∈ lw_all := mt1 47 (by decide +kernel) (by decide +kernel)
theorem q17 : (Jvm.Cond.fieldLink "PactClocks$Book" (21 : Nat) "PactClocks$Book" "stopped" "[I") ∈ lw_all := mt1 101 (by decide +kernel) (by decide +kernel)
theorem q18 : (Jvm.Cond.fieldLink "PactClocks$Book" (57 : Nat) "PactClocks$Terms" "after" "[I") ∈ lw_all := mt1 54 (by decide +kernel) (by decide +kernel)
theorem q19 : (Jvm.Cond.code ({ cls := "PactClocks$Book", name := "begin", desc := "(I)V" } : Jvm.MethodName) prog_2_method_8_code (2 : Nat) (Option.none : Option Jvm.ClassFile.FieldType)) ∈ lw_all := mt2 77 (by decide +kernel) (by decide +kernel)
theorem q20 : (Jvm.Cond.instanceMethod ({ cls := "PactClocks$Book", name := "begin", desc := "(I)V" } : Jvm.MethodName)) ∈ lw_all := mt2 76 (by decide +kernel) (by decide +kernel)
theorem q21 : (Cond.selects "PactClocks$Book" (⟨"PactClocks$Book", "begin", "(I)V"⟩ : MethodName) (⟨"PactClocks$Book", "begin", "(I)V"⟩ : MethodName)) ∈ lw_all := mt0 5 (by decide +kernel) (by decide +kernel)
theorem q22 : (Jvm.Cond.methodLink "PactClocks$Book" (64 : Nat) ({ cls := "PactClocks$Book", name := "begin", desc := "(I)V" } : Jvm.MethodName)) ∈ lw_all := mt2 74 (by decide +kernel) (by decide +kernel)
theorem q23 : (Jvm.Cond.code ({ cls := "PactClocks$Book", name := "end", desc := "(II)V" } : Jvm.MethodName) prog_2_method_9_code (3 : Nat) (Option.none : Option Jvm.ClassFile.FieldType)) ∈ lw_all := mt2 73 (by decide +kernel) (by decide +kernel)
theorem q24 : (Jvm.Cond.instanceMethod ({ cls := "PactClocks$Book", name := "end", desc := "(II)V" } : Jvm.MethodName)) ∈ lw_all := mt2 71 (by decide +kernel) (by decide +kernel)
theorem q25 : (Jvm.Cond.selects "PactClocks$Book" ({ cls := "PactClocks$Book", name := "end", desc := "(II)V" } : Jvm.MethodName) ({ cls := "PactClocks$Book", name := "end", desc := "(II)V" } : Jvm.MethodName)) ∈ lw_all := mt2 72 (by decide +kernel) (by decide +kernel)
theorem q26 : (Jvm.Cond.methodLink "PactClocks$Book" (60 : Nat) ({ cls := "PactClocks$Book", name := "end", desc := "(II)V" } : Jvm.MethodName)) ∈ lw_all := mt2 70 (by decide +kernel) (by decide +kernel)
theorem q27 : (Jvm.Cond.fieldLink "PactClocks$Book" (77 : Nat) "PactClocks$Terms" "creditor" "[I") ∈ lw_all := mt1 42 (by decide +kernel) (by decide +kernel)
theorem q28 : (Jvm.Cond.code ({ cls := "PactClocks$Book", name := "move", desc := "(II)V" } : Jvm.MethodName) prog_2_method_11_code (3 : Nat) (Option.none : Option Jvm.ClassFile.FieldType)) ∈ lw_all := mt2 69 (by decide +kernel) (by decide +kernel)
theorem q29 : (Jvm.Cond.instanceMethod ({ cls := "PactClocks$Book", name := "move", desc := "(II)V" } : Jvm.MethodName)) ∈ lw_all := mt2 68 (by decide +kernel) (by decide +kernel)
theorem q30 : (Cond.selects "PactClocks$Book" (⟨"PactClocks$Book", "move", "(II)V"⟩ : MethodName) (⟨"PactClocks$Book", "move", "(II)V"⟩ : MethodName)) ∈ lw_all := mt0 4 (by decide +kernel) (by decide +kernel)
theorem q31 : (Jvm.Cond.methodLink "PactClocks$Book" (71 : Nat) ({ cls := "PactClocks$Book", name := "move", desc := "(II)V" } : Jvm.MethodName)) ∈ lw_all := mt2 66 (by decide +kernel) (by decide +kernel)
theorem q32 : (Jvm.Cond.fieldLink "PactClocks$Book" (74 : Nat) "PactClocks$Terms" "count" "I") ∈ lw_all := mt1 63 (by decide +kernel) (by decide +kernel)
theorem q33 : (Jvm.Cond.code ({ cls := "PactClocks$Book", name := "isGone", desc := "(I)Z" } : Jvm.MethodName) prog_2_method_4_code (2 : Nat) (Option.some Jvm.ClassFile.FieldType.boolean)) ∈ lw_all := mt2 104 (by decide +kernel) (by decide +kernel)
theorem q34 : (Jvm.Cond.instanceMethod ({ cls := "PactClocks$Book", name := "isGone", desc := "(I)Z" } : Jvm.MethodName)) ∈ lw_all := mt2 102 (by decide +kernel) (by decide +kernel)
theorem q35 : (Jvm.Cond.selects "PactClocks$Book" ({ cls := "PactClocks$Book", name := "isGone", desc := "(I)Z" } : Jvm.MethodName) ({ cls := "PactClocks$Book", name := "isGone", desc := "(I)Z" } : Jvm.MethodName)) ∈ lw_all := mt2 103 (by decide +kernel) (by decide +kernel)
theorem q36 : (Jvm.Cond.methodLink "PactClocks$Book" (98 : Nat) ({ cls := "PactClocks$Book", name := "isGone", desc := "(I)Z" } : Jvm.MethodName)) ∈ lw_all := mt2 101 (by decide +kernel) (by decide +kernel)
theorem q37 : (Jvm.Cond.fieldLink "PactClocks$Book" (34 : Nat) "PactClocks$Book" "taken" "I") ∈ lw_all := mt1 103 (by decide +kernel) (by decide +kernel)
theorem q38 : (Jvm.Cond.code ({ cls := "PactClocks$Book", name := "releaseWaitingBehind", desc := "(I)I" } : Jvm.MethodName) prog_2_method_15_code (4 : Nat) (Option.some Jvm.ClassFile.FieldType.int)) ∈ lw_all := mt2 100 (by decide +kernel) (by decide +kernel)
theorem q39 : (Jvm.Cond.instanceMethod ({ cls := "PactClocks$Book", name := "releaseWaitingBehind", desc := "(I)I" } : Jvm.MethodName)) ∈ lw_all := mt2 98 (by decide +kernel) (by decide +kernel)
theorem q40 : (Jvm.Cond.selects "PactClocks$Book" ({ cls := "PactClocks$Book", name := "releaseWaitingBehind", desc := "(I)I" } : Jvm.MethodName) ({ cls := "PactClocks$Book", name := "releaseWaitingBehind", desc := "(I)I" } : Jvm.MethodName)) ∈ lw_all := mt2 99 (by decide +kernel) (by decide +kernel)
theorem q41 : (Jvm.Cond.methodLink "PactClocks$Book" (95 : Nat) ({ cls := "PactClocks$Book", name := "releaseWaitingBehind", desc := "(I)I" } : Jvm.MethodName)) ∈ lw_all := mt2 97 (by decide +kernel) (by decide +kernel)
theorem q42 : (Jvm.Cond.methodLink "PactClocks$Book" (89 : Nat) ({ cls := "java/lang/Math", name := "min", desc := "(II)I" } : Jvm.MethodName)) ∈ lw_all := mt2 94 (by decide +kernel) (by decide +kernel)
theorem q43 : (Jvm.Cond.static ({ cls := "java/lang/Math", name := "min", desc := "(II)I" } : Jvm.MethodName)) ∈ lw_all := mt2 95 (by decide +kernel) (by decide +kernel)
theorem q44 : (Jvm.Cond.initialized "java/lang/Math") ∈ lw_all := mt1 17 (by decide +kernel) (by decide +kernel)
theorem q45 : (Jvm.Cond.code ({ cls := "java/lang/Math", name := "min", desc := "(II)I" } : Jvm.MethodName) prog_14_method_69_code (2 : Nat) (Option.some Jvm.ClassFile.FieldType.int)) ∈ lw_all := mt2 96 (by decide +kernel) (by decide +kernel)
theorem q46 : (Jvm.Cond.fieldLink "PactClocks$Book" (86 : Nat) "PactClocks$Terms" "cure" "[I") ∈ lw_all := mt1 49 (by decide +kernel) (by decide +kernel)
theorem q47 : (Jvm.Cond.code ({ cls := "PactClocks$Book", name := "runsOutToday", desc := "(I)Z" } : Jvm.MethodName) prog_2_method_13_code (2 : Nat) (Option.some Jvm.ClassFile.FieldType.boolean)) ∈ lw_all := mt2 89 (by decide +kernel) (by decide +kernel)
theorem q48 : (Jvm.Cond.instanceMethod ({ cls := "PactClocks$Book", name := "runsOutToday", desc := "(I)Z" } : Jvm.MethodName)) ∈ lw_all := mt2 88 (by decide +kernel) (by decide +kernel)
theorem q49 : (Cond.selects "PactClocks$Book" (⟨"PactClocks$Book", "runsOutToday", "(I)Z"⟩ : MethodName) (⟨"PactClocks$Book", "runsOutToday", "(I)Z"⟩ : MethodName)) ∈ lw_all := mt0 6 (by decide +kernel) (by decide +kernel)
theorem q50 : (Jvm.Cond.methodLink "PactClocks$Book" (80 : Nat) ({ cls := "PactClocks$Book", name := "runsOutToday", desc := "(I)Z" } : Jvm.MethodName)) ∈ lw_all := mt2 86 (by decide +kernel) (by decide +kernel)
theorem q51 : (Jvm.Cond.code ({ cls := "PactClocks$Book", name := "fail", desc := "(I)V" } : Jvm.MethodName) prog_2_method_14_code (3 : Nat) (Option.none : Option Jvm.ClassFile.FieldType)) ∈ lw_all := mt2 93 (by decide +kernel) (by decide +kernel)
theorem q52 : (Jvm.Cond.instanceMethod ({ cls := "PactClocks$Book", name := "fail", desc := "(I)V" } : Jvm.MethodName)) ∈ lw_all := mt2 92 (by decide +kernel) (by decide +kernel)
theorem q53 : (Cond.selects "PactClocks$Book" (⟨"PactClocks$Book", "fail", "(I)V"⟩ : MethodName) (⟨"PactClocks$Book", "fail", "(I)V"⟩ : MethodName)) ∈ lw_all := mt0 7 (by decide +kernel) (by decide +kernel)
theorem q54 : (Jvm.Cond.methodLink "PactClocks$Book" (83 : Nat) ({ cls := "PactClocks$Book", name := "fail", desc := "(I)V" } : Jvm.MethodName)) ∈ lw_all := mt2 90 (by decide +kernel) (by decide +kernel)
theorem q55 : (Jvm.Cond.methodLink "PactClocks$Book" (28 : Nat) ({ cls := "java/lang/System", name := "arraycopy", desc := "(Ljava/lang/Object;ILjava/lang/Object;II)V" } : Jvm.MethodName)) ∈ lw_all := mt2 58 (by decide +kernel) (by decide +kernel)
theorem q56 : (Jvm.Cond.native ({ cls := "java/lang/System", name := "arraycopy", desc := "(Ljava/lang/Object;ILjava/lang/Object;II)V" } : Jvm.MethodName)) ∈ lw_all := mt2 60 (by decide +kernel) (by decide +kernel)
theorem q57 : (Jvm.Cond.static ({ cls := "java/lang/System", name := "arraycopy", desc := "(Ljava/lang/Object;ILjava/lang/Object;II)V" } : Jvm.MethodName)) ∈ lw_all := mt2 59 (by decide +kernel) (by decide +kernel)
theorem q58 : (Jvm.Cond.initialized "java/lang/System") ∈ lw_all := mt1 19 (by decide +kernel) (by decide +kernel)
theorem q59 : (Jvm.Cond.fieldLink "PactClocks$Terms" (33 : Nat) "PactClocks$Terms" "depth" "[I") ∈ lw_all := mt1 55 (by decide +kernel) (by decide +kernel)
theorem q60 : (Jvm.Cond.fieldLink "PactClocks$Terms" (30 : Nat) "PactClocks$Terms" "after" "[I") ∈ lw_all := mt1 53 (by decide +kernel) (by decide +kernel)
theorem f_X0_15 : zF RX0 "PactClocks$Book" 15 4 2 6 RX0 TX0 := ⟨in_X0, rfl, by decide, q0, rfl⟩
theorem f_X0_24 : zF RX0 "PactClocks$Book" 24 4 0 6 RX0 TX0 := ⟨in_X0, rfl, by decide, q1, rfl⟩
theorem f_X0_38 : zF RX0 "PactClocks$Terms" 38 5 2 11 RX1 TX1 := ⟨in_X1, rfl, by decide, q2, rfl⟩
theorem f_X0_43 : zF RX0 "PactClocks$Terms" 43 5 5 11 RX1 TX1 := ⟨in_X1, rfl, by decide, q3, rfl⟩
theorem f_X0_9 : zF RX0 "PactClocks$Book" 9 4 1 6 RX0 TX0 := ⟨in_X0, rfl, by decide, q9, rfl⟩
theorem f_X0_50 : zF RX0 "PactClocks$Terms" 50 5 0 11 RX1 TX1 := ⟨in_X1, rfl, by decide, q10, rfl⟩
theorem f_X0_18 : zF RX0 "PactClocks$Book" 18 4 3 6 RX0 TX0 := ⟨in_X0, rfl, by decide, q15, rfl⟩
theorem f_X0_68 : zF RX0 "PactClocks$Terms" 68 5 3 11 RX1 TX1 := ⟨in_X1, rfl, by decide, q16, rfl⟩
theorem f_X0_21 : zF RX0 "PactClocks$Book" 21 4 4 6 RX0 TX0 := ⟨in_X0, rfl, by decide, q17, rfl⟩
theorem f_X0_57 : zF RX0 "PactClocks$Terms" 57 5 6 11 RX1 TX1 := ⟨in_X1, rfl, by decide, q18, rfl⟩
theorem f_X0_77 : zF RX0 "PactClocks$Terms" 77 5 1 11 RX1 TX1 := ⟨in_X1, rfl, by decide, q27, rfl⟩
theorem f_X0_74 : zF RX0 "PactClocks$Terms" 74 5 10 11 RX1 TX1 := ⟨in_X1, rfl, by decide, q32, rfl⟩
theorem f_X0_34 : zF RX0 "PactClocks$Book" 34 4 5 6 RX0 TX0 := ⟨in_X0, rfl, by decide, q37, rfl⟩
theorem f_X0_86 : zF RX0 "PactClocks$Terms" 86 5 4 11 RX1 TX1 := ⟨in_X1, rfl, by decide, q46, rfl⟩
theorem f_X1_33 : zF RX1 "PactClocks$Terms" 33 5 7 11 RX1 TX1 := ⟨in_X1, rfl, by decide, q59, rfl⟩
theorem f_X1_30 : zF RX1 "PactClocks$Terms" 30 5 6 11 RX1 TX1 := ⟨in_X1, rfl, by decide, q60, rfl⟩
theorem v_X0_isOpen : zV yX0_isOpen cX0_isOpen 2 (some .boolean) 1 := ⟨q6, q7, q4, q5, by decide +kernel, by decide +kernel, by decide +kernel⟩
theorem v_X0_price : zV yX0_price cX0_price 2 (some .int) 1 := ⟨q12, q13, q4, q11, by decide +kernel, by decide +kernel, by decide +kernel⟩
theorem v_X0_begin : zV yX0_begin cX0_begin 2 none 1 := ⟨q20, q21, q4, q19, by decide +kernel, by decide +kernel, by decide +kernel⟩
theorem v_X0_end : zV yX0_end cX0_end 3 none 2 := ⟨q24, q25, q4, q23, by decide +kernel, by decide +kernel, by decide +kernel⟩
theorem v_X0_move : zV yX0_move cX0_move 3 none 2 := ⟨q29, q30, q4, q28, by decide +kernel, by decide +kernel, by decide +kernel⟩
theorem v_X0_isGone : zV yX0_isGone cX0_isGone 2 (some .boolean) 1 := ⟨q34, q35, q4, q33, by decide +kernel, by decide +kernel, by decide +kernel⟩
theorem v_X0_releaseWaitingBehind : zV yX0_releaseWaitingBehind cX0_releaseWaitingBehind 4 (some .int) 1 := ⟨q39, q40, q4, q38, by decide +kernel, by decide +kernel, by decide +kernel⟩
theorem v_X0_runsOutToday : zV yX0_runsOutToday cX0_runsOutToday 2 (some .boolean) 1 := ⟨q48, q49, q4, q47, by decide +kernel, by decide +kernel, by decide +kernel⟩
theorem v_X0_fail : zV yX0_fail cX0_fail 3 none 1 := ⟨q52, q53, q4, q51, by decide +kernel, by decide +kernel, by decide +kernel⟩
def wpX0_isOpen (post : Int32 → Prop) (T : TS) (b : BS) (p0 : Int32) : Prop := vp_in p0 20 ∧ (((b.2.1 p0.toNatClampNeg) = 1 → post 1) ∧ (¬ (b.2.1 p0.toNatClampNeg) = 1 → vp_in p0 20 ∧ (((b.2.1 p0.toNatClampNeg) = 2 → post 1) ∧ (¬ (b.2.1 p0.toNatClampNeg) = 2 → post 0))))
set_option maxHeartbeats 4000000 in
set_option maxRecDepth 100000 in
theorem c_X0_isOpen {l : Launch} (hfl : l.stackTraces = false) {s0 : State} (hs0 : zS s0) (D : va_G) (cI cB cJ : ClassId) (bA : Nat → Nat) (tA : Nat → Nat) (T : TS) (b : BS) (p0 : Int32) {post : Int32 → Prop} (h : wpX0_isOpen post T b p0) : zR s0 l D (zty cI cB cJ) yX0_isOpen cX0_isOpen 2 (some .boolean) 1 [.ref (bA 0), .int p0] (wB cI bA tA b T) (fun u : Int32 => some (Value.int u)) (fun u : Int32 => post u) := by
  refine zR_intro (by decide +kernel) (Nat.le_of_ble_eq_true rfl) ?_
  intro p e s m below meth c C hP hG ls hl
  have C : zC D (zty cI cB cJ) p s m ([.ref (bA 0), .int p0] : List Value).toArray meth c cX0_isOpen RX0 (some .boolean) 2 := C
  have hx := C.1
  have hb := C.2.1
  have hts := C.2.2.1
  have hown := C.2.2.2.1
  have hml := C.2.2.2.2.2.1
  have hK := C.2.2.2.2.2.2.2
  have hl : lv_has ls 2 [(0, .ref (bA 0)), (1, .int p0)] := hl
  unfold wpX0_isOpen at h
  refine lv_aload_n hx hb dX0_isOpen_0 rfl (lv_at hl 0 rfl) ?_
  refine z_get C f_X0_15 hP (q0 := 0) rfl rfl dX0_isOpen_1 ?_
  refine lv_iload_n hx hb dX0_isOpen_4 rfl (lv_at hl 1 rfl) ?_
  obtain ⟨g9, h⟩ := h
  refine va_iald hx hb hK hP 2 0 rfl rfl g9 dX0_isOpen_5 ?_
  refine lv_iconst (v := 1) hx hb dX0_isOpen_6 (by decide) ?_
  refine lv_icmp_eq (tgt := 20) hx hb dX0_isOpen_7 (by decide) (fun c7 => ?_) (fun c7 => ?_)
  · have h := h.1 c7
    refine lv_iconst (v := 1) hx hb dX0_isOpen_20 (by decide) ?_
    refine lv_goto (tgt := 25) hx hb dX0_isOpen_21 (by decide) ?_
    exact zR_zret C rfl 1 rfl h dX0_isOpen_25
  · have h := h.2 c7
    refine lv_aload_n hx hb dX0_isOpen_10 rfl (lv_at hl 0 rfl) ?_
    refine z_get C f_X0_15 hP (q0 := 0) rfl rfl dX0_isOpen_11 ?_
    refine lv_iload_n hx hb dX0_isOpen_14 rfl (lv_at hl 1 rfl) ?_
    obtain ⟨g9, h⟩ := h
    refine va_iald hx hb hK hP 2 0 rfl rfl g9 dX0_isOpen_15 ?_
    refine lv_iconst (v := 2) hx hb dX0_isOpen_16 (by decide) ?_
    refine lv_icmp_ne (tgt := 24) hx hb dX0_isOpen_17 (by decide) (fun c17 => ?_) (fun c17 => ?_)
    · have h := h.2 c17
      refine lv_iconst (v := 0) hx hb dX0_isOpen_24 (by decide) ?_
      exact zR_zret C rfl 0 rfl h dX0_isOpen_25
    · have h := h.1 c17
      refine lv_iconst (v := 1) hx hb dX0_isOpen_20 (by decide) ?_
      refine lv_goto (tgt := 25) hx hb dX0_isOpen_21 (by decide) ?_
      exact zR_zret C rfl 1 rfl h dX0_isOpen_25
def wpX0_isGone (post : Int32 → Prop) (T : TS) (b : BS) (p0 : Int32) : Prop := (p0 = (-1) → post 0) ∧ (¬ p0 = (-1) → vp_in p0 20 ∧ (((b.2.1 p0.toNatClampNeg) = 4 → post 1) ∧ (¬ (b.2.1 p0.toNatClampNeg) = 4 → vp_in p0 20 ∧ (((b.2.1 p0.toNatClampNeg) = 5 → post 1) ∧ (¬ (b.2.1 p0.toNatClampNeg) = 5 → post 0)))))
set_option maxHeartbeats 4000000 in
set_option maxRecDepth 100000 in
theorem c_X0_isGone {l : Launch} (hfl : l.stackTraces = false) {s0 : State} (hs0 : zS s0) (D : va_G) (cI cB cJ : ClassId) (bA : Nat → Nat) (tA : Nat → Nat) (T : TS) (b : BS) (p0 : Int32) {post : Int32 → Prop} (h : wpX0_isGone post T b p0) : zR s0 l D (zty cI cB cJ) yX0_isGone cX0_isGone 2 (some .boolean) 1 [.ref (bA 0), .int p0] (wB cI bA tA b T) (fun u : Int32 => some (Value.int u)) (fun u : Int32 => post u) := by
  refine zR_intro (by decide +kernel) (Nat.le_of_ble_eq_true rfl) ?_
  intro p e s m below meth c C hP hG ls hl
  have C : zC D (zty cI cB cJ) p s m ([.ref (bA 0), .int p0] : List Value).toArray meth c cX0_isGone RX0 (some .boolean) 2 := C
  have hx := C.1
  have hb := C.2.1
  have hts := C.2.2.1
  have hown := C.2.2.2.1
  have hml := C.2.2.2.2.2.1
  have hK := C.2.2.2.2.2.2.2
  have hl : lv_has ls 2 [(0, .ref (bA 0)), (1, .int p0)] := hl
  unfold wpX0_isGone at h
  refine lv_iload_n hx hb dX0_isGone_0 rfl (lv_at hl 1 rfl) ?_
  refine lv_iconst (v := (-1)) hx hb dX0_isGone_1 (by decide) ?_
  refine lv_icmp_eq (tgt := 29) hx hb dX0_isGone_2 (by decide) (fun c2 => ?_) (fun c2 => ?_)
  · have h := h.1 c2
    refine lv_iconst (v := 0) hx hb dX0_isGone_29 (by decide) ?_
    exact zR_zret C rfl 0 rfl h dX0_isGone_30
  · have h := h.2 c2
    refine lv_aload_n hx hb dX0_isGone_5 rfl (lv_at hl 0 rfl) ?_
    refine z_get C f_X0_15 hP (q0 := 0) rfl rfl dX0_isGone_6 ?_
    refine lv_iload_n hx hb dX0_isGone_9 rfl (lv_at hl 1 rfl) ?_
    obtain ⟨g9, h⟩ := h
    refine va_iald hx hb hK hP 2 0 rfl rfl g9 dX0_isGone_10 ?_
    refine lv_iconst (v := 4) hx hb dX0_isGone_11 (by decide) ?_
    refine lv_icmp_eq (tgt := 25) hx hb dX0_isGone_12 (by decide) (fun c12 => ?_) (fun c12 => ?_)
    · have h := h.1 c12
      refine lv_iconst (v := 1) hx hb dX0_isGone_25 (by decide) ?_
      refine lv_goto (tgt := 30) hx hb dX0_isGone_26 (by decide) ?_
      exact zR_zret C rfl 1 rfl h dX0_isGone_30
    · have h := h.2 c12
      refine lv_aload_n hx hb dX0_isGone_15 rfl (lv_at hl 0 rfl) ?_
      refine z_get C f_X0_15 hP (q0 := 0) rfl rfl dX0_isGone_16 ?_
      refine lv_iload_n hx hb dX0_isGone_19 rfl (lv_at hl 1 rfl) ?_
      obtain ⟨g9, h⟩ := h
      refine va_iald hx hb hK hP 2 0 rfl rfl g9 dX0_isGone_20 ?_
      refine lv_iconst (v := 5) hx hb dX0_isGone_21 (by decide) ?_
      refine lv_icmp_ne (tgt := 29) hx hb dX0_isGone_22 (by decide) (fun c22 => ?_) (fun c22 => ?_)
      · have h := h.2 c22
        refine lv_iconst (v := 0) hx hb dX0_isGone_29 (by decide) ?_
        exact zR_zret C rfl 0 rfl h dX0_isGone_30
      · have h := h.1 c22
        refine lv_iconst (v := 1) hx hb dX0_isGone_25 (by decide) ?_
        refine lv_goto (tgt := 30) hx hb dX0_isGone_26 (by decide) ?_
        exact zR_zret C rfl 1 rfl h dX0_isGone_30
def wpX0_price (post : Int32 → Prop) (T : TS) (b : BS) (p0 : Int32) : Prop := vp_in p0 20 ∧ (((b.2.1 p0.toNatClampNeg) = 1 → vp_in p0 20 ∧ (post (T.2.2.1 p0.toNatClampNeg))) ∧ (¬ (b.2.1 p0.toNatClampNeg) = 1 → vp_in p0 20 ∧ (((b.2.1 p0.toNatClampNeg) = 2 → vp_in p0 20 ∧ (vp_in p0 20 ∧ (post ((T.2.2.1 p0.toNatClampNeg) + ((T.2.2.2.2.2.1 p0.toNatClampNeg) / 2))))) ∧ (¬ (b.2.1 p0.toNatClampNeg) = 2 → post 0))))
set_option maxHeartbeats 4000000 in
set_option maxRecDepth 100000 in
theorem c_X0_price {l : Launch} (hfl : l.stackTraces = false) {s0 : State} (hs0 : zS s0) (D : va_G) (cI cB cJ : ClassId) (bA : Nat → Nat) (tA : Nat → Nat) (T : TS) (b : BS) (p0 : Int32) {post : Int32 → Prop} (h : wpX0_price post T b p0) : zR s0 l D (zty cI cB cJ) yX0_price cX0_price 2 (some .int) 1 [.ref (bA 0), .int p0] (wB cI bA tA b T) (fun u : Int32 => some (Value.int u)) (fun u : Int32 => post u) := by
  refine zR_intro (by decide +kernel) (Nat.le_of_ble_eq_true rfl) ?_
  intro p e s m below meth c C hP hG ls hl
  have C : zC D (zty cI cB cJ) p s m ([.ref (bA 0), .int p0] : List Value).toArray meth c cX0_price RX0 (some .int) 2 := C
  have hx := C.1
  have hb := C.2.1
  have hts := C.2.2.1
  have hown := C.2.2.2.1
  have hml := C.2.2.2.2.2.1
  have hK := C.2.2.2.2.2.2.2
  have hl : lv_has ls 2 [(0, .ref (bA 0)), (1, .int p0)] := hl
  unfold wpX0_price at h
  refine lv_aload_n hx hb dX0_price_0 rfl (lv_at hl 0 rfl) ?_
  refine z_get C f_X0_15 hP (q0 := 0) rfl rfl dX0_price_1 ?_
  refine lv_iload_n hx hb dX0_price_4 rfl (lv_at hl 1 rfl) ?_
  obtain ⟨g9, h⟩ := h
  refine va_iald hx hb hK hP 2 0 rfl rfl g9 dX0_price_5 ?_
  refine lv_iconst (v := 1) hx hb dX0_price_6 (by decide) ?_
  refine lv_icmp_ne (tgt := 20) hx hb dX0_price_7 (by decide) (fun c7 => ?_) (fun c7 => ?_)
  · have h := h.2 c7
    refine lv_aload_n hx hb dX0_price_20 rfl (lv_at hl 0 rfl) ?_
    refine z_get C f_X0_15 hP (q0 := 0) rfl rfl dX0_price_21 ?_
    refine lv_iload_n hx hb dX0_price_24 rfl (lv_at hl 1 rfl) ?_
    obtain ⟨g9, h⟩ := h
    refine va_iald hx hb hK hP 2 0 rfl rfl g9 dX0_price_25 ?_
    refine lv_iconst (v := 2) hx hb dX0_price_26 (by decide) ?_
    refine lv_icmp_ne (tgt := 52) hx hb dX0_price_27 (by decide) (fun c27 => ?_) (fun c27 => ?_)
    · have h := h.2 c27
      refine lv_iconst (v := 0) hx hb dX0_price_52 (by decide) ?_
      exact zR_iret C 0 rfl h dX0_price_53
    · have h := h.1 c27
      refine lv_aload_n hx hb dX0_price_30 rfl (lv_at hl 0 rfl) ?_
      refine z_get C f_X0_24 hP (q0 := 0) rfl rfl dX0_price_31 ?_
      refine z_get C f_X0_38 hP (q0 := 5) rfl rfl dX0_price_34 ?_
      refine lv_iload_n hx hb dX0_price_37 rfl (lv_at hl 1 rfl) ?_
      obtain ⟨g9, h⟩ := h
      refine va_iald hx hb hK hP 8 0 rfl rfl g9 dX0_price_38 ?_
      refine lv_aload_n hx hb dX0_price_39 rfl (lv_at hl 0 rfl) ?_
      refine z_get C f_X0_24 hP (q0 := 0) rfl rfl dX0_price_40 ?_
      refine z_get C f_X0_43 hP (q0 := 5) rfl rfl dX0_price_43 ?_
      refine lv_iload_n hx hb dX0_price_46 rfl (lv_at hl 1 rfl) ?_
      obtain ⟨g9, h⟩ := h
      refine va_iald hx hb hK hP 11 0 rfl rfl g9 dX0_price_47 ?_
      refine lv_iconst (v := 2) hx hb dX0_price_48 (by decide) ?_
      refine lv_idiv hx hb dX0_price_49 (by decide) ?_
      refine lv_iadd hx hb dX0_price_50 ?_
      exact zR_iret C ((T.2.2.1 p0.toNatClampNeg) + ((T.2.2.2.2.2.1 p0.toNatClampNeg) / 2)) rfl h dX0_price_51
  · have h := h.1 c7
    refine lv_aload_n hx hb dX0_price_10 rfl (lv_at hl 0 rfl) ?_
    refine z_get C f_X0_24 hP (q0 := 0) rfl rfl dX0_price_11 ?_
    refine z_get C f_X0_38 hP (q0 := 5) rfl rfl dX0_price_14 ?_
    refine lv_iload_n hx hb dX0_price_17 rfl (lv_at hl 1 rfl) ?_
    obtain ⟨g9, h⟩ := h
    refine va_iald hx hb hK hP 8 0 rfl rfl g9 dX0_price_18 ?_
    exact zR_iret C (T.2.2.1 p0.toNatClampNeg) rfl h dX0_price_19
def wpX0_canBePaid (post : Int32 → Prop) (T : TS) (b : BS) (p0 : Int32) : Prop := wpX0_isOpen (fun r2 => (r2 = 0 → post 0) ∧ (¬ r2 = 0 → vp_in p0 20 ∧ (vp_in (T.1 p0.toNatClampNeg) 6 ∧ (wpX0_price (fun r24 => ((b.1 (T.1 p0.toNatClampNeg).toNatClampNeg) < r24 → post 0) ∧ (¬ (b.1 (T.1 p0.toNatClampNeg).toNatClampNeg) < r24 → post 1)) T b p0)))) T b p0
set_option maxHeartbeats 4000000 in
set_option maxRecDepth 100000 in
theorem c_X0_canBePaid {l : Launch} (hfl : l.stackTraces = false) {s0 : State} (hs0 : zS s0) (D : va_G) (cI cB cJ : ClassId) (bA : Nat → Nat) (tA : Nat → Nat) (T : TS) (b : BS) (p0 : Int32) {post : Int32 → Prop} (h : wpX0_canBePaid post T b p0) : zR s0 l D (zty cI cB cJ) yX0_canBePaid cX0_canBePaid 2 (some .boolean) 2 [.ref (bA 0), .int p0] (wB cI bA tA b T) (fun u : Int32 => some (Value.int u)) (fun u : Int32 => post u) := by
  refine zR_intro (by decide +kernel) (Nat.le_of_ble_eq_true rfl) ?_
  intro p e s m below meth c C hP hG ls hl
  have C : zC D (zty cI cB cJ) p s m ([.ref (bA 0), .int p0] : List Value).toArray meth c cX0_canBePaid RX0 (some .boolean) 2 := C
  have hx := C.1
  have hb := C.2.1
  have hts := C.2.2.1
  have hown := C.2.2.2.1
  have hml := C.2.2.2.2.2.1
  have hK := C.2.2.2.2.2.2.2
  have hl : lv_has ls 2 [(0, .ref (bA 0)), (1, .int p0)] := hl
  unfold wpX0_canBePaid at h
  refine lv_aload_n hx hb dX0_canBePaid_0 rfl (lv_at hl 0 rfl) ?_
  refine lv_iload_n hx hb dX0_canBePaid_1 rfl (lv_at hl 1 rfl) ?_
  refine z_RV (As := [.int p0]) (rest := []) [0, 1, 2, 3, 4, 5, 6, 7, 8, 9, 10, 11, 12, 13, 14, 15] C hG hP (c_X0_isOpen hfl hs0 D cI cB cJ bA tA T b p0 h) q8 v_X0_isOpen rfl rfl rfl rfl ⟨(Nat.le_of_ble_eq_true rfl), (Nat.le_of_ble_eq_true rfl)⟩ ⟨(Nat.le_of_ble_eq_true rfl), (Nat.le_of_ble_eq_true rfl)⟩ hl.1 rfl (lv_room (Nat.le_of_ble_eq_true rfl)) dX0_canBePaid_2 (fun r2 h => ?_)
  refine lv_if_eq (tgt := 34) hx hb dX0_canBePaid_5 (by decide) (fun c5 => ?_) (fun c5 => ?_)
  · have h := h.1 c5
    refine lv_iconst (v := 0) hx hb dX0_canBePaid_34 (by decide) ?_
    exact zR_zret C rfl 0 rfl h dX0_canBePaid_35
  · have h := h.2 c5
    refine lv_aload_n hx hb dX0_canBePaid_8 rfl (lv_at hl 0 rfl) ?_
    refine z_get C f_X0_9 hP (q0 := 0) rfl rfl dX0_canBePaid_9 ?_
    refine lv_aload_n hx hb dX0_canBePaid_12 rfl (lv_at hl 0 rfl) ?_
    refine z_get C f_X0_24 hP (q0 := 0) rfl rfl dX0_canBePaid_13 ?_
    refine z_get C f_X0_50 hP (q0 := 5) rfl rfl dX0_canBePaid_16 ?_
    refine lv_iload_n hx hb dX0_canBePaid_19 rfl (lv_at hl 1 rfl) ?_
    obtain ⟨g9, h⟩ := h
    refine va_iald hx hb hK hP 6 0 rfl rfl g9 dX0_canBePaid_20 ?_
    obtain ⟨g9, h⟩ := h
    refine va_iald hx hb hK hP 1 0 rfl rfl g9 dX0_canBePaid_21 ?_
    refine lv_aload_n hx hb dX0_canBePaid_22 rfl (lv_at hl 0 rfl) ?_
    refine lv_iload_n hx hb dX0_canBePaid_23 rfl (lv_at hl 1 rfl) ?_
    refine z_RV (As := [.int p0]) (rest := [.int (b.1 (T.1 p0.toNatClampNeg).toNatClampNeg)]) [0, 1, 2, 3, 4, 5, 6, 7, 8, 9, 10, 11, 12, 13, 14, 15] C hG hP (c_X0_price hfl hs0 D cI cB cJ bA tA T b p0 h) q14 v_X0_price rfl rfl rfl rfl ⟨(Nat.le_of_ble_eq_true rfl), (Nat.le_of_ble_eq_true rfl)⟩ ⟨(Nat.le_of_ble_eq_true rfl), (Nat.le_of_ble_eq_true rfl)⟩ hl.1 rfl (lv_room (Nat.le_of_ble_eq_true rfl)) dX0_canBePaid_24 (fun r24 h => ?_)
    refine lv_icmp_lt (tgt := 34) hx hb dX0_canBePaid_27 (by decide) (fun c27 => ?_) (fun c27 => ?_)
    · have h := h.1 c27
      refine lv_iconst (v := 0) hx hb dX0_canBePaid_34 (by decide) ?_
      exact zR_zret C rfl 0 rfl h dX0_canBePaid_35
    · have h := h.2 c27
      refine lv_iconst (v := 1) hx hb dX0_canBePaid_30 (by decide) ?_
      refine lv_goto (tgt := 35) hx hb dX0_canBePaid_31 (by decide) ?_
      exact zR_zret C rfl 1 rfl h dX0_canBePaid_35
def wpX0_begin (post : BS → Prop) (T : TS) (b : BS) (p0 : Int32) : Prop := vp_in p0 20 ∧ (vp_in p0 20 ∧ (vp_in p0 20 ∧ (vp_in p0 20 ∧ (post (b.1, (upd b.2.1 p0.toNatClampNeg 1), (upd b.2.2.1 p0.toNatClampNeg (T.2.2.2.1 p0.toNatClampNeg)), (upd b.2.2.2.1 p0.toNatClampNeg 0), b.2.2.2.2)))))
set_option maxHeartbeats 4000000 in
set_option maxRecDepth 100000 in
theorem c_X0_begin {l : Launch} (hfl : l.stackTraces = false) {s0 : State} (hs0 : zS s0) (D : va_G) (cI cB cJ : ClassId) (bA : Nat → Nat) (tA : Nat → Nat) (T : TS) (b : BS) (p0 : Int32) {post : BS → Prop} (h : wpX0_begin post T b p0) : zW s0 l D (zty cI cB cJ) yX0_begin cX0_begin 2 none 1 0 0 [.ref (bA 0), .int p0] (wB cI bA tA b T) (fun _ : BS => none) (fun u : BS => post u) (fun u : BS => wB cI bA tA u T) := by
  refine zW_intro (by decide +kernel) (Nat.le_of_ble_eq_true rfl) ?_
  intro p e s m below meth c A C hnm hA hG hP hD hS ls hl
  have C : zC D (zty cI cB cJ) p s m ([.ref (bA 0), .int p0] : List Value).toArray meth c cX0_begin RX0 none 2 := C
  have hx := C.1
  have hb := C.2.1
  have hts := C.2.2.1
  have hown := C.2.2.2.1
  have hml := C.2.2.2.2.2.1
  have hK := C.2.2.2.2.2.2.2
  have hl : lv_has ls 2 [(0, .ref (bA 0)), (1, .int p0)] := hl
  have hP : va_P D vwCl (wB cI bA tA b T) s.heap := hP
  have hD : va_D A (wB cI bA tA b T) := hD
  unfold wpX0_begin at h
  refine lv_aload_n hx hb dX0_begin_0 rfl (lv_at hl 0 rfl) ?_
  refine z_get C f_X0_15 hP (q0 := 0) rfl rfl dX0_begin_1 ?_
  refine lv_iload_n hx hb dX0_begin_4 rfl (lv_at hl 1 rfl) ?_
  refine lv_iconst (v := 1) hx hb dX0_begin_5 (by decide) ?_
  obtain ⟨g9, h⟩ := h
  refine va_iast hx hb hK hP hD hS 2 0 rfl rfl g9 dX0_begin_6 (fun H locs hP hD hS => ?_)
  have hP : va_P D vwCl (wB cI bA tA (b.1, (upd b.2.1 p0.toNatClampNeg 1), b.2.2.1, b.2.2.2.1, b.2.2.2.2) T) H := hP
  have hD : va_D A (wB cI bA tA (b.1, (upd b.2.1 p0.toNatClampNeg 1), b.2.2.1, b.2.2.2.1, b.2.2.2.2) T) := hD
  refine lv_aload_n hx hb dX0_begin_7 rfl (lv_at hl 0 rfl) ?_
  refine z_get C f_X0_18 hP (q0 := 0) rfl rfl dX0_begin_8 ?_
  refine lv_iload_n hx hb dX0_begin_11 rfl (lv_at hl 1 rfl) ?_
  refine lv_aload_n hx hb dX0_begin_12 rfl (lv_at hl 0 rfl) ?_
  refine z_get C f_X0_24 hP (q0 := 0) rfl rfl dX0_begin_13 ?_
  refine z_get C f_X0_68 hP (q0 := 5) rfl rfl dX0_begin_16 ?_
  refine lv_iload_n hx hb dX0_begin_19 rfl (lv_at hl 1 rfl) ?_
  obtain ⟨g9, h⟩ := h
  refine va_iald hx hb hK hP 9 0 rfl rfl g9 dX0_begin_20 ?_
  obtain ⟨g9, h⟩ := h
  refine va_iast hx hb hK hP hD hS 3 0 rfl rfl g9 dX0_begin_21 (fun H locs hP hD hS => ?_)
  have hP : va_P D vwCl (wB cI bA tA (b.1, (upd b.2.1 p0.toNatClampNeg 1), (upd b.2.2.1 p0.toNatClampNeg (T.2.2.2.1 p0.toNatClampNeg)), b.2.2.2.1, b.2.2.2.2) T) H := hP
  have hD : va_D A (wB cI bA tA (b.1, (upd b.2.1 p0.toNatClampNeg 1), (upd b.2.2.1 p0.toNatClampNeg (T.2.2.2.1 p0.toNatClampNeg)), b.2.2.2.1, b.2.2.2.2) T) := hD
  refine lv_aload_n hx hb dX0_begin_22 rfl (lv_at hl 0 rfl) ?_
  refine z_get C f_X0_21 hP (q0 := 0) rfl rfl dX0_begin_23 ?_
  refine lv_iload_n hx hb dX0_begin_26 rfl (lv_at hl 1 rfl) ?_
  refine lv_iconst (v := 0) hx hb dX0_begin_27 (by decide) ?_
  obtain ⟨g9, h⟩ := h
  refine va_iast hx hb hK hP hD hS 4 0 rfl rfl g9 dX0_begin_28 (fun H locs hP hD hS => ?_)
  have hP : va_P D vwCl (wB cI bA tA (b.1, (upd b.2.1 p0.toNatClampNeg 1), (upd b.2.2.1 p0.toNatClampNeg (T.2.2.2.1 p0.toNatClampNeg)), (upd b.2.2.2.1 p0.toNatClampNeg 0), b.2.2.2.2) T) H := hP
  have hD : va_D A (wB cI bA tA (b.1, (upd b.2.1 p0.toNatClampNeg 1), (upd b.2.2.1 p0.toNatClampNeg (T.2.2.2.1 p0.toNatClampNeg)), (upd b.2.2.2.1 p0.toNatClampNeg 0), b.2.2.2.2) T) := hD
  exact zW_vret C (b.1, (upd b.2.1 p0.toNatClampNeg 1), (upd b.2.2.1 p0.toNatClampNeg (T.2.2.2.1 p0.toNatClampNeg)), (upd b.2.2.2.1 p0.toNatClampNeg 0), b.2.2.2.2) rfl h hP hD hS (Nat.le_of_ble_eq_true rfl) (Nat.le_of_ble_eq_true rfl) dX0_begin_29
def wpX0_end (post : BS → Prop) (T : TS) (b : BS) (p0 : Int32) (p1 : Int32) : Prop := vp_in p0 20 ∧ (vp_in p0 20 ∧ (vp_in p0 20 ∧ (post (b.1, (upd b.2.1 p0.toNatClampNeg p1), (upd b.2.2.1 p0.toNatClampNeg 0), (upd b.2.2.2.1 p0.toNatClampNeg 0), b.2.2.2.2))))
set_option maxHeartbeats 4000000 in
set_option maxRecDepth 100000 in
theorem c_X0_end {l : Launch} (hfl : l.stackTraces = false) {s0 : State} (hs0 : zS s0) (D : va_G) (cI cB cJ : ClassId) (bA : Nat → Nat) (tA : Nat → Nat) (T : TS) (b : BS) (p0 : Int32) (p1 : Int32) {post : BS → Prop} (h : wpX0_end post T b p0 p1) : zW s0 l D (zty cI cB cJ) yX0_end cX0_end 3 none 1 0 0 [.ref (bA 0), .int p0, .int p1] (wB cI bA tA b T) (fun _ : BS => none) (fun u : BS => post u) (fun u : BS => wB cI bA tA u T) := by
  refine zW_intro (by decide +kernel) (Nat.le_of_ble_eq_true rfl) ?_
  intro p e s m below meth c A C hnm hA hG hP hD hS ls hl
  have C : zC D (zty cI cB cJ) p s m ([.ref (bA 0), .int p0, .int p1] : List Value).toArray meth c cX0_end RX0 none 3 := C
  have hx := C.1
  have hb := C.2.1
  have hts := C.2.2.1
  have hown := C.2.2.2.1
  have hml := C.2.2.2.2.2.1
  have hK := C.2.2.2.2.2.2.2
  have hl : lv_has ls 3 [(0, .ref (bA 0)), (1, .int p0), (2, .int p1)] := hl
  have hP : va_P D vwCl (wB cI bA tA b T) s.heap := hP
  have hD : va_D A (wB cI bA tA b T) := hD
  unfold wpX0_end at h
  refine lv_aload_n hx hb dX0_end_0 rfl (lv_at hl 0 rfl) ?_
  refine z_get C f_X0_15 hP (q0 := 0) rfl rfl dX0_end_1 ?_
  refine lv_iload_n hx hb dX0_end_4 rfl (lv_at hl 1 rfl) ?_
  refine lv_iload_n hx hb dX0_end_5 rfl (lv_at hl 2 rfl) ?_
  obtain ⟨g9, h⟩ := h
  refine va_iast hx hb hK hP hD hS 2 0 rfl rfl g9 dX0_end_6 (fun H locs hP hD hS => ?_)
  have hP : va_P D vwCl (wB cI bA tA (b.1, (upd b.2.1 p0.toNatClampNeg p1), b.2.2.1, b.2.2.2.1, b.2.2.2.2) T) H := hP
  have hD : va_D A (wB cI bA tA (b.1, (upd b.2.1 p0.toNatClampNeg p1), b.2.2.1, b.2.2.2.1, b.2.2.2.2) T) := hD
  refine lv_aload_n hx hb dX0_end_7 rfl (lv_at hl 0 rfl) ?_
  refine z_get C f_X0_18 hP (q0 := 0) rfl rfl dX0_end_8 ?_
  refine lv_iload_n hx hb dX0_end_11 rfl (lv_at hl 1 rfl) ?_
  refine lv_iconst (v := 0) hx hb dX0_end_12 (by decide) ?_
  obtain ⟨g9, h⟩ := h
  refine va_iast hx hb hK hP hD hS 3 0 rfl rfl g9 dX0_end_13 (fun H locs hP hD hS => ?_)
  have hP : va_P D vwCl (wB cI bA tA (b.1, (upd b.2.1 p0.toNatClampNeg p1), (upd b.2.2.1 p0.toNatClampNeg 0), b.2.2.2.1, b.2.2.2.2) T) H := hP
  have hD : va_D A (wB cI bA tA (b.1, (upd b.2.1 p0.toNatClampNeg p1), (upd b.2.2.1 p0.toNatClampNeg 0), b.2.2.2.1, b.2.2.2.2) T) := hD
  refine lv_aload_n hx hb dX0_end_14 rfl (lv_at hl 0 rfl) ?_
  refine z_get C f_X0_21 hP (q0 := 0) rfl rfl dX0_end_15 ?_
  refine lv_iload_n hx hb dX0_end_18 rfl (lv_at hl 1 rfl) ?_
  refine lv_iconst (v := 0) hx hb dX0_end_19 (by decide) ?_
  obtain ⟨g9, h⟩ := h
  refine va_iast hx hb hK hP hD hS 4 0 rfl rfl g9 dX0_end_20 (fun H locs hP hD hS => ?_)
  have hP : va_P D vwCl (wB cI bA tA (b.1, (upd b.2.1 p0.toNatClampNeg p1), (upd b.2.2.1 p0.toNatClampNeg 0), (upd b.2.2.2.1 p0.toNatClampNeg 0), b.2.2.2.2) T) H := hP
  have hD : va_D A (wB cI bA tA (b.1, (upd b.2.1 p0.toNatClampNeg p1), (upd b.2.2.1 p0.toNatClampNeg 0), (upd b.2.2.2.1 p0.toNatClampNeg 0), b.2.2.2.2) T) := hD
  exact zW_vret C (b.1, (upd b.2.1 p0.toNatClampNeg p1), (upd b.2.2.1 p0.toNatClampNeg 0), (upd b.2.2.2.1 p0.toNatClampNeg 0), b.2.2.2.2) rfl h hP hD hS (Nat.le_of_ble_eq_true rfl) (Nat.le_of_ble_eq_true rfl) dX0_end_21
def wpX0_enter_b32 (post : BS → Prop) (T : TS) (p0 : Int32) (b_ : BS) : Prop := wpX0_end (fun b35 => post b35) T b_ p0 0
def wpX0_enter (post : BS → Prop) (T : TS) (b : BS) (p0 : Int32) : Prop := vp_in p0 20 ∧ (((T.2.2.2.2.2.2.1 p0.toNatClampNeg) = (-1) → wpX0_begin (fun b43 => post b43) T b p0) ∧ (¬ (T.2.2.2.2.2.2.1 p0.toNatClampNeg) = (-1) → vp_in (T.2.2.2.2.2.2.1 p0.toNatClampNeg) 20 ∧ (((b.2.1 (T.2.2.2.2.2.2.1 p0.toNatClampNeg).toNatClampNeg) = 0 → wpX0_enter_b32 post T p0 b) ∧ (¬ (b.2.1 (T.2.2.2.2.2.2.1 p0.toNatClampNeg).toNatClampNeg) = 0 → wpX0_isOpen (fun r26 => (r26 = 0 → wpX0_begin (fun b43 => post b43) T b p0) ∧ (¬ r26 = 0 → wpX0_enter_b32 post T p0 b)) T b (T.2.2.2.2.2.2.1 p0.toNatClampNeg)))))
set_option maxHeartbeats 4000000 in
set_option maxRecDepth 100000 in
theorem c_X0_enter {l : Launch} (hfl : l.stackTraces = false) {s0 : State} (hs0 : zS s0) (D : va_G) (cI cB cJ : ClassId) (bA : Nat → Nat) (tA : Nat → Nat) (T : TS) (b : BS) (p0 : Int32) {post : BS → Prop} (h : wpX0_enter post T b p0) : zW s0 l D (zty cI cB cJ) yX0_enter cX0_enter 3 none 2 0 0 [.ref (bA 0), .int p0] (wB cI bA tA b T) (fun _ : BS => none) (fun u : BS => post u) (fun u : BS => wB cI bA tA u T) := by
  refine zW_intro (by decide +kernel) (Nat.le_of_ble_eq_true rfl) ?_
  intro p e s m below meth c A C hnm hA hG hP hD hS ls hl
  have C : zC D (zty cI cB cJ) p s m ([.ref (bA 0), .int p0] : List Value).toArray meth c cX0_enter RX0 none 3 := C
  have hx := C.1
  have hb := C.2.1
  have hts := C.2.2.1
  have hown := C.2.2.2.1
  have hml := C.2.2.2.2.2.1
  have hK := C.2.2.2.2.2.2.2
  have hl : lv_has ls 3 [(0, .ref (bA 0)), (1, .int p0)] := hl
  have hP : va_P D vwCl (wB cI bA tA b T) s.heap := hP
  have hD : va_D A (wB cI bA tA b T) := hD
  have k32 : ∀ (b_ : BS) (H : Heap) (locs : List Loc), va_P D vwCl (wB cI bA tA b_ T) H → va_D A (wB cI bA tA b_ T) → va_S A s.heap H locs → ∀ (ls : Array Slot), lv_has ls 3 [(0, .ref (bA 0)), (1, .int p0)] → wpX0_enter_b32 post T p0 b_ → W p l e (zr 2 0 0) s m ([.ref (bA 0), .int p0] : List Value).toArray below meth c H locs 0 0 (MQ below (zQ D (fun _ : BS => none) (fun u : BS => post u) (fun u : BS => wB cI bA tA u T) A) ([.ref (bA 0), .int p0] : List Value).toArray s 0 0 A) (F0 m 32 ls []) := by
    intro b_ H locs hP hD hS ls hl h
    unfold wpX0_enter_b32 at h
    refine lv_aload_n hx hb dX0_enter_32 rfl (lv_at hl 0 rfl) ?_
    refine lv_iload_n hx hb dX0_enter_33 rfl (lv_at hl 1 rfl) ?_
    refine lv_iconst (v := 0) hx hb dX0_enter_34 (by decide) ?_
    refine z_WV (As := [.int p0, .int 0]) (rest := []) (wr := ([] : va_W)) (wN := (fun u : BS => wB cI bA tA u T)) [0, 1, 2, 3, 4, 5, 6, 7, 8, 9, 10, 11, 12, 13, 14, 15] [] [0, 1, 2, 3, 4, 5, 6, 7, 8, 9, 10, 11, 12, 13, 14, 15] C hG hA hP hD hS (c_X0_end hfl hs0 D cI cB cJ bA tA T b_ p0 0 h) q26 v_X0_end rfl rfl ⟨by decide, by decide, by decide⟩ (by decide) (fun _ => rfl) rfl rfl rfl ⟨(Nat.le_of_ble_eq_true rfl), (Nat.le_of_ble_eq_true rfl)⟩ ⟨(Nat.le_of_ble_eq_true rfl), (Nat.le_of_ble_eq_true rfl)⟩ hl.1 rfl (lv_room (Nat.le_of_ble_eq_true rfl)) dX0_enter_35 (fun u H locs h hP hD hS => ?_)
    obtain ⟨b35, rfl⟩ : ∃ z, z = u := ⟨_, rfl⟩
    have hP : va_P D vwCl (wB cI bA tA b35 T) H := hP
    have hD : va_D A (wB cI bA tA b35 T) := hD
    refine lv_goto (tgt := 46) hx hb dX0_enter_38 (by decide) ?_
    exact zW_vret C b35 rfl h hP hD hS (Nat.le_of_ble_eq_true rfl) (Nat.le_of_ble_eq_true rfl) dX0_enter_46
  unfold wpX0_enter at h
  refine lv_aload_n hx hb dX0_enter_0 rfl (lv_at hl 0 rfl) ?_
  refine z_get C f_X0_24 hP (q0 := 0) rfl rfl dX0_enter_1 ?_
  refine z_get C f_X0_57 hP (q0 := 5) rfl rfl dX0_enter_4 ?_
  refine lv_iload_n hx hb dX0_enter_7 rfl (lv_at hl 1 rfl) ?_
  obtain ⟨g9, h⟩ := h
  refine va_iald hx hb hK hP 12 0 rfl rfl g9 dX0_enter_8 ?_
  refine lv_istore_n (lv' := [(2, .int (T.2.2.2.2.2.2.1 p0.toNatClampNeg)), (0, .ref (bA 0)), (1, .int p0)]) hx hb dX0_enter_9 rfl hl (by decide) rfl (fun ls hl => ?_)
  refine lv_iload_n hx hb dX0_enter_10 rfl (lv_at hl 0 rfl) ?_
  refine lv_iconst (v := (-1)) hx hb dX0_enter_11 (by decide) ?_
  refine lv_icmp_eq (tgt := 41) hx hb dX0_enter_12 (by decide) (fun c12 => ?_) (fun c12 => ?_)
  · have h := h.1 c12
    refine lv_aload_n hx hb dX0_enter_41 rfl (lv_at hl 1 rfl) ?_
    refine lv_iload_n hx hb dX0_enter_42 rfl (lv_at hl 2 rfl) ?_
    refine z_WV (As := [.int p0]) (rest := []) (wr := ([] : va_W)) (wN := (fun u : BS => wB cI bA tA u T)) [0, 1, 2, 3, 4, 5, 6, 7, 8, 9, 10, 11, 12, 13, 14, 15] [] [0, 1, 2, 3, 4, 5, 6, 7, 8, 9, 10, 11, 12, 13, 14, 15] C hG hA hP hD hS (c_X0_begin hfl hs0 D cI cB cJ bA tA T b p0 h) q22 v_X0_begin rfl rfl ⟨by decide, by decide, by decide⟩ (by decide) (fun _ => rfl) rfl rfl rfl ⟨(Nat.le_of_ble_eq_true rfl), (Nat.le_of_ble_eq_true rfl)⟩ ⟨(Nat.le_of_ble_eq_true rfl), (Nat.le_of_ble_eq_true rfl)⟩ hl.1 rfl (lv_room (Nat.le_of_ble_eq_true rfl)) dX0_enter_43 (fun u H locs h hP hD hS => ?_)
    obtain ⟨b43, rfl⟩ : ∃ z, z = u := ⟨_, rfl⟩
    have hP : va_P D vwCl (wB cI bA tA b43 T) H := hP
    have hD : va_D A (wB cI bA tA b43 T) := hD
    exact zW_vret C b43 rfl h hP hD hS (Nat.le_of_ble_eq_true rfl) (Nat.le_of_ble_eq_true rfl) dX0_enter_46
  · have h := h.2 c12
    refine lv_aload_n hx hb dX0_enter_15 rfl (lv_at hl 1 rfl) ?_
    refine z_get C f_X0_15 hP (q0 := 0) rfl rfl dX0_enter_16 ?_
    refine lv_iload_n hx hb dX0_enter_19 rfl (lv_at hl 0 rfl) ?_
    obtain ⟨g9, h⟩ := h
    refine va_iald hx hb hK hP 2 0 rfl rfl g9 dX0_enter_20 ?_
    refine lv_if_eq (tgt := 32) hx hb dX0_enter_21 (by decide) (fun c21 => ?_) (fun c21 => ?_)
    · have h := h.1 c21
      refine W.widen (k := 0) (n := 0) (Nat.le_of_ble_eq_true rfl) (Nat.le_of_ble_eq_true rfl) ?_
      exact k32 b  _ _ hP hD hS _ (lv_sub hl [1, 2] rfl) h
    · have h := h.2 c21
      refine lv_aload_n hx hb dX0_enter_24 rfl (lv_at hl 1 rfl) ?_
      refine lv_iload_n hx hb dX0_enter_25 rfl (lv_at hl 0 rfl) ?_
      refine z_RV (As := [.int (T.2.2.2.2.2.2.1 p0.toNatClampNeg)]) (rest := []) [0, 1, 2, 3, 4, 5, 6, 7, 8, 9, 10, 11, 12, 13, 14, 15] C (hG.kept hS.1 hS.2.1).none hP (c_X0_isOpen hfl hs0 D cI cB cJ bA tA T b (T.2.2.2.2.2.2.1 p0.toNatClampNeg) h) q8 v_X0_isOpen rfl rfl rfl rfl ⟨(Nat.le_of_ble_eq_true rfl), (Nat.le_of_ble_eq_true rfl)⟩ ⟨(Nat.le_of_ble_eq_true rfl), (Nat.le_of_ble_eq_true rfl)⟩ hl.1 rfl (lv_room (Nat.le_of_ble_eq_true rfl)) dX0_enter_26 (fun r26 h => ?_)
      refine lv_if_eq (tgt := 41) hx hb dX0_enter_29 (by decide) (fun c29 => ?_) (fun c29 => ?_)
      · have h := h.1 c29
        refine lv_aload_n hx hb dX0_enter_41 rfl (lv_at hl 1 rfl) ?_
        refine lv_iload_n hx hb dX0_enter_42 rfl (lv_at hl 2 rfl) ?_
        refine z_WV (As := [.int p0]) (rest := []) (wr := ([] : va_W)) (wN := (fun u : BS => wB cI bA tA u T)) [0, 1, 2, 3, 4, 5, 6, 7, 8, 9, 10, 11, 12, 13, 14, 15] [] [0, 1, 2, 3, 4, 5, 6, 7, 8, 9, 10, 11, 12, 13, 14, 15] C hG hA hP hD hS (c_X0_begin hfl hs0 D cI cB cJ bA tA T b p0 h) q22 v_X0_begin rfl rfl ⟨by decide, by decide, by decide⟩ (by decide) (fun _ => rfl) rfl rfl rfl ⟨(Nat.le_of_ble_eq_true rfl), (Nat.le_of_ble_eq_true rfl)⟩ ⟨(Nat.le_of_ble_eq_true rfl), (Nat.le_of_ble_eq_true rfl)⟩ hl.1 rfl (lv_room (Nat.le_of_ble_eq_true rfl)) dX0_enter_43 (fun u H locs h hP hD hS => ?_)
        obtain ⟨b43, rfl⟩ : ∃ z, z = u := ⟨_, rfl⟩
        have hP : va_P D vwCl (wB cI bA tA b43 T) H := hP
        have hD : va_D A (wB cI bA tA b43 T) := hD
        exact zW_vret C b43 rfl h hP hD hS (Nat.le_of_ble_eq_true rfl) (Nat.le_of_ble_eq_true rfl) dX0_enter_46
      · have h := h.2 c29
        refine W.widen (k := 0) (n := 0) (Nat.le_of_ble_eq_true rfl) (Nat.le_of_ble_eq_true rfl) ?_
        exact k32 b  _ _ hP hD hS _ (lv_sub hl [1, 2] rfl) h
def wpX0_move (post : BS → Prop) (T : TS) (b : BS) (p0 : Int32) (p1 : Int32) : Prop := vp_in p1 20 ∧ (vp_in (T.1 p1.toNatClampNeg) 6 ∧ (vp_in (T.1 p1.toNatClampNeg) 6 ∧ (vp_in p1 20 ∧ (vp_in (T.2.1 p1.toNatClampNeg) 6 ∧ (vp_in (T.2.1 p1.toNatClampNeg) 6 ∧ (post ((upd (upd b.1 (T.1 p1.toNatClampNeg).toNatClampNeg ((b.1 (T.1 p1.toNatClampNeg).toNatClampNeg) - p0)) (T.2.1 p1.toNatClampNeg).toNatClampNeg (((upd b.1 (T.1 p1.toNatClampNeg).toNatClampNeg ((b.1 (T.1 p1.toNatClampNeg).toNatClampNeg) - p0)) (T.2.1 p1.toNatClampNeg).toNatClampNeg) + p0)), b.2.1, b.2.2.1, b.2.2.2.1, b.2.2.2.2)))))))
set_option maxHeartbeats 4000000 in
set_option maxRecDepth 100000 in
theorem c_X0_move {l : Launch} (hfl : l.stackTraces = false) {s0 : State} (hs0 : zS s0) (D : va_G) (cI cB cJ : ClassId) (bA : Nat → Nat) (tA : Nat → Nat) (T : TS) (b : BS) (p0 : Int32) (p1 : Int32) {post : BS → Prop} (h : wpX0_move post T b p0 p1) : zW s0 l D (zty cI cB cJ) yX0_move cX0_move 3 none 1 0 0 [.ref (bA 0), .int p0, .int p1] (wB cI bA tA b T) (fun _ : BS => none) (fun u : BS => post u) (fun u : BS => wB cI bA tA u T) := by
  refine zW_intro (by decide +kernel) (Nat.le_of_ble_eq_true rfl) ?_
  intro p e s m below meth c A C hnm hA hG hP hD hS ls hl
  have C : zC D (zty cI cB cJ) p s m ([.ref (bA 0), .int p0, .int p1] : List Value).toArray meth c cX0_move RX0 none 3 := C
  have hx := C.1
  have hb := C.2.1
  have hts := C.2.2.1
  have hown := C.2.2.2.1
  have hml := C.2.2.2.2.2.1
  have hK := C.2.2.2.2.2.2.2
  have hl : lv_has ls 3 [(0, .ref (bA 0)), (1, .int p0), (2, .int p1)] := hl
  have hP : va_P D vwCl (wB cI bA tA b T) s.heap := hP
  have hD : va_D A (wB cI bA tA b T) := hD
  unfold wpX0_move at h
  refine lv_aload_n hx hb dX0_move_0 rfl (lv_at hl 0 rfl) ?_
  refine z_get C f_X0_9 hP (q0 := 0) rfl rfl dX0_move_1 ?_
  refine lv_aload_n hx hb dX0_move_4 rfl (lv_at hl 0 rfl) ?_
  refine z_get C f_X0_24 hP (q0 := 0) rfl rfl dX0_move_5 ?_
  refine z_get C f_X0_50 hP (q0 := 5) rfl rfl dX0_move_8 ?_
  refine lv_iload_n hx hb dX0_move_11 rfl (lv_at hl 2 rfl) ?_
  obtain ⟨g9, h⟩ := h
  refine va_iald hx hb hK hP 6 0 rfl rfl g9 dX0_move_12 ?_
  refine lv_dup2_11 hx hb dX0_move_13 rfl rfl ?_
  obtain ⟨g9, h⟩ := h
  refine va_iald hx hb hK hP 1 0 rfl rfl g9 dX0_move_14 ?_
  refine lv_iload_n hx hb dX0_move_15 rfl (lv_at hl 1 rfl) ?_
  refine lv_isub hx hb dX0_move_16 ?_
  obtain ⟨g9, h⟩ := h
  refine va_iast hx hb hK hP hD hS 1 0 rfl rfl g9 dX0_move_17 (fun H locs hP hD hS => ?_)
  have hP : va_P D vwCl (wB cI bA tA ((upd b.1 (T.1 p1.toNatClampNeg).toNatClampNeg ((b.1 (T.1 p1.toNatClampNeg).toNatClampNeg) - p0)), b.2.1, b.2.2.1, b.2.2.2.1, b.2.2.2.2) T) H := hP
  have hD : va_D A (wB cI bA tA ((upd b.1 (T.1 p1.toNatClampNeg).toNatClampNeg ((b.1 (T.1 p1.toNatClampNeg).toNatClampNeg) - p0)), b.2.1, b.2.2.1, b.2.2.2.1, b.2.2.2.2) T) := hD
  refine lv_aload_n hx hb dX0_move_18 rfl (lv_at hl 0 rfl) ?_
  refine z_get C f_X0_9 hP (q0 := 0) rfl rfl dX0_move_19 ?_
  refine lv_aload_n hx hb dX0_move_22 rfl (lv_at hl 0 rfl) ?_
  refine z_get C f_X0_24 hP (q0 := 0) rfl rfl dX0_move_23 ?_
  refine z_get C f_X0_77 hP (q0 := 5) rfl rfl dX0_move_26 ?_
  refine lv_iload_n hx hb dX0_move_29 rfl (lv_at hl 2 rfl) ?_
  obtain ⟨g9, h⟩ := h
  refine va_iald hx hb hK hP 7 0 rfl rfl g9 dX0_move_30 ?_
  refine lv_dup2_11 hx hb dX0_move_31 rfl rfl ?_
  obtain ⟨g9, h⟩ := h
  refine va_iald hx hb hK hP 1 0 rfl rfl g9 dX0_move_32 ?_
  refine lv_iload_n hx hb dX0_move_33 rfl (lv_at hl 1 rfl) ?_
  refine lv_iadd hx hb dX0_move_34 ?_
  obtain ⟨g9, h⟩ := h
  refine va_iast hx hb hK hP hD hS 1 0 rfl rfl g9 dX0_move_35 (fun H locs hP hD hS => ?_)
  have hP : va_P D vwCl (wB cI bA tA ((upd (upd b.1 (T.1 p1.toNatClampNeg).toNatClampNeg ((b.1 (T.1 p1.toNatClampNeg).toNatClampNeg) - p0)) (T.2.1 p1.toNatClampNeg).toNatClampNeg (((upd b.1 (T.1 p1.toNatClampNeg).toNatClampNeg ((b.1 (T.1 p1.toNatClampNeg).toNatClampNeg) - p0)) (T.2.1 p1.toNatClampNeg).toNatClampNeg) + p0)), b.2.1, b.2.2.1, b.2.2.2.1, b.2.2.2.2) T) H := hP
  have hD : va_D A (wB cI bA tA ((upd (upd b.1 (T.1 p1.toNatClampNeg).toNatClampNeg ((b.1 (T.1 p1.toNatClampNeg).toNatClampNeg) - p0)) (T.2.1 p1.toNatClampNeg).toNatClampNeg (((upd b.1 (T.1 p1.toNatClampNeg).toNatClampNeg ((b.1 (T.1 p1.toNatClampNeg).toNatClampNeg) - p0)) (T.2.1 p1.toNatClampNeg).toNatClampNeg) + p0)), b.2.1, b.2.2.1, b.2.2.2.1, b.2.2.2.2) T) := hD
  exact zW_vret C ((upd (upd b.1 (T.1 p1.toNatClampNeg).toNatClampNeg ((b.1 (T.1 p1.toNatClampNeg).toNatClampNeg) - p0)) (T.2.1 p1.toNatClampNeg).toNatClampNeg (((upd b.1 (T.1 p1.toNatClampNeg).toNatClampNeg ((b.1 (T.1 p1.toNatClampNeg).toNatClampNeg) - p0)) (T.2.1 p1.toNatClampNeg).toNatClampNeg) + p0)), b.2.1, b.2.2.1, b.2.2.2.1, b.2.2.2.2) rfl h hP hD hS (Nat.le_of_ble_eq_true rfl) (Nat.le_of_ble_eq_true rfl) dX0_move_36
def wpX0_settle_b58 (post : BS → Prop) (T : TS) (p0 : Int32) (K20 : Int32 → BS → Prop) (x2 : Int32) (b_ : BS) : Prop := K20 (x2 + 1) b_
def wpX0_settle_b20 (post : BS → Prop) (T : TS) (p0 : Int32) : Nat → Int32 → BS → Prop
  | 0, _, _ => False
  | n + 1, x2, b_ => (T.2.2.2.2.2.2.2.2.2.2 ≤ x2 → post b_) ∧ (¬ T.2.2.2.2.2.2.2.2.2.2 ≤ x2 → vp_in x2 20 ∧ (((T.2.2.2.2.2.2.1 x2.toNatClampNeg) = p0 → vp_in x2 20 ∧ (((b_.2.1 x2.toNatClampNeg) = 0 → wpX0_begin (fun b55 => wpX0_settle_b58 post T p0 (fun z0 z1 => wpX0_settle_b20 post T p0 n z0 z1) x2 b55) T b_ x2) ∧ (¬ (b_.2.1 x2.toNatClampNeg) = 0 → wpX0_settle_b58 post T p0 (fun z0 z1 => wpX0_settle_b20 post T p0 n z0 z1) x2 b_))) ∧ (¬ (T.2.2.2.2.2.2.1 x2.toNatClampNeg) = p0 → wpX0_settle_b58 post T p0 (fun z0 z1 => wpX0_settle_b20 post T p0 n z0 z1) x2 b_)))
def wpX0_settle (post : BS → Prop) (T : TS) (b : BS) (p0 : Int32) : Prop := wpX0_price (fun r3 => wpX0_move (fun b7 => wpX0_end (fun b13 => ∃ n20 : Nat, wpX0_settle_b20 post T p0 n20 (p0 + 1) b13) T b7 p0 3) T b r3 p0) T b p0
set_option maxHeartbeats 4000000 in
set_option maxRecDepth 100000 in
theorem c_X0_settle {l : Launch} (hfl : l.stackTraces = false) {s0 : State} (hs0 : zS s0) (D : va_G) (cI cB cJ : ClassId) (bA : Nat → Nat) (tA : Nat → Nat) (T : TS) (b : BS) (p0 : Int32) {post : BS → Prop} (h : wpX0_settle post T b p0) : zW s0 l D (zty cI cB cJ) yX0_settle cX0_settle 3 none 2 0 0 [.ref (bA 0), .int p0] (wB cI bA tA b T) (fun _ : BS => none) (fun u : BS => post u) (fun u : BS => wB cI bA tA u T) := by
  refine zW_intro (by decide +kernel) (Nat.le_of_ble_eq_true rfl) ?_
  intro p e s m below meth c A C hnm hA hG hP hD hS ls hl
  have C : zC D (zty cI cB cJ) p s m ([.ref (bA 0), .int p0] : List Value).toArray meth c cX0_settle RX0 none 3 := C
  have hx := C.1
  have hb := C.2.1
  have hts := C.2.2.1
  have hown := C.2.2.2.1
  have hml := C.2.2.2.2.2.1
  have hK := C.2.2.2.2.2.2.2
  have hl : lv_has ls 3 [(0, .ref (bA 0)), (1, .int p0)] := hl
  have hP : va_P D vwCl (wB cI bA tA b T) s.heap := hP
  have hD : va_D A (wB cI bA tA b T) := hD
  have k58 : ∀ (K20 : Int32 → BS → Prop) (hK20 : ∀ (x2 : Int32) (b_ : BS) (H : Heap) (locs : List Loc), va_P D vwCl (wB cI bA tA b_ T) H → va_D A (wB cI bA tA b_ T) → va_S A s.heap H locs → ∀ (ls : Array Slot), lv_has ls 3 [(0, .ref (bA 0)), (1, .int p0), (2, .int x2)] → K20 x2 b_ → W p l e (zr 2 0 0) s m ([.ref (bA 0), .int p0] : List Value).toArray below meth c H locs 0 0 (MQ below (zQ D (fun _ : BS => none) (fun u : BS => post u) (fun u : BS => wB cI bA tA u T) A) ([.ref (bA 0), .int p0] : List Value).toArray s 0 0 A) (F0 m 20 ls [])), ∀ (x2 : Int32) (b_ : BS) (H : Heap) (locs : List Loc), va_P D vwCl (wB cI bA tA b_ T) H → va_D A (wB cI bA tA b_ T) → va_S A s.heap H locs → ∀ (ls : Array Slot), lv_has ls 3 [(0, .ref (bA 0)), (1, .int p0), (2, .int x2)] → wpX0_settle_b58 post T p0 K20 x2 b_ → W p l e (zr 2 0 0) s m ([.ref (bA 0), .int p0] : List Value).toArray below meth c H locs 0 0 (MQ below (zQ D (fun _ : BS => none) (fun u : BS => post u) (fun u : BS => wB cI bA tA u T) A) ([.ref (bA 0), .int p0] : List Value).toArray s 0 0 A) (F0 m 58 ls []) := by
    intro K20 hK20
    intro x2 b_ H locs hP hD hS ls hl h
    unfold wpX0_settle_b58 at h
    refine lv_iinc (v := (x2 + 1)) (lv' := [(2, .int (x2 + 1)), (0, .ref (bA 0)), (1, .int p0)]) hx hb dX0_settle_58 hl (k := 2) rfl (by first | rfl | decide) (by decide) rfl (fun ls hl => ?_)
    refine lv_goto (tgt := 20) hx hb dX0_settle_61 (by decide) ?_
    refine W.widen (k := 0) (n := 0) (Nat.le_of_ble_eq_true rfl) (Nat.le_of_ble_eq_true rfl) ?_
    exact hK20 (x2 + 1) b_  _ _ hP hD hS _ (lv_sub hl [1, 2, 0] rfl) h
  have k20 : ∀ (n : Nat) (x2 : Int32) (b_ : BS) (H : Heap) (locs : List Loc), va_P D vwCl (wB cI bA tA b_ T) H → va_D A (wB cI bA tA b_ T) → va_S A s.heap H locs → ∀ (ls : Array Slot), lv_has ls 3 [(0, .ref (bA 0)), (1, .int p0), (2, .int x2)] → wpX0_settle_b20 post T p0 n x2 b_ → W p l e (zr 2 0 0) s m ([.ref (bA 0), .int p0] : List Value).toArray below meth c H locs 0 0 (MQ below (zQ D (fun _ : BS => none) (fun u : BS => post u) (fun u : BS => wB cI bA tA u T) A) ([.ref (bA 0), .int p0] : List Value).toArray s 0 0 A) (F0 m 20 ls []) := by
    intro n
    induction n with
    | zero =>
      intro x2 b_ H locs hP hD hS ls hl h
      exact h.elim
    | succ n ih =>
      intro x2 b_ H locs hP hD hS ls hl h
      rw [wpX0_settle_b20] at h
      refine lv_iload_n hx hb dX0_settle_20 rfl (lv_at hl 2 rfl) ?_
      refine lv_aload_n hx hb dX0_settle_21 rfl (lv_at hl 0 rfl) ?_
      refine z_get C f_X0_24 hP (q0 := 0) rfl rfl dX0_settle_22 ?_
      refine z_get C f_X0_74 hP (q0 := 5) rfl rfl dX0_settle_25 ?_
      refine lv_icmp_ge (tgt := 64) hx hb dX0_settle_28 (by decide) (fun c28 => ?_) (fun c28 => ?_)
      · have h := h.1 c28
        exact zW_vret C b_ rfl h hP hD hS (Nat.le_of_ble_eq_true rfl) (Nat.le_of_ble_eq_true rfl) dX0_settle_64
      · have h := h.2 c28
        refine lv_aload_n hx hb dX0_settle_31 rfl (lv_at hl 0 rfl) ?_
        refine z_get C f_X0_24 hP (q0 := 0) rfl rfl dX0_settle_32 ?_
        refine z_get C f_X0_57 hP (q0 := 5) rfl rfl dX0_settle_35 ?_
        refine lv_iload_n hx hb dX0_settle_38 rfl (lv_at hl 2 rfl) ?_
        obtain ⟨g9, h⟩ := h
        refine va_iald hx hb hK hP 12 0 rfl rfl g9 dX0_settle_39 ?_
        refine lv_iload_n hx hb dX0_settle_40 rfl (lv_at hl 1 rfl) ?_
        refine lv_icmp_ne (tgt := 58) hx hb dX0_settle_41 (by decide) (fun c41 => ?_) (fun c41 => ?_)
        · have h := h.2 c41
          refine W.widen (k := 0) (n := 0) (Nat.le_of_ble_eq_true rfl) (Nat.le_of_ble_eq_true rfl) ?_
          exact k58 _ ih x2 b_  _ _ hP hD hS _ (lv_sub hl [0, 1, 2] rfl) h
        · have h := h.1 c41
          refine lv_aload_n hx hb dX0_settle_44 rfl (lv_at hl 0 rfl) ?_
          refine z_get C f_X0_15 hP (q0 := 0) rfl rfl dX0_settle_45 ?_
          refine lv_iload_n hx hb dX0_settle_48 rfl (lv_at hl 2 rfl) ?_
          obtain ⟨g9, h⟩ := h
          refine va_iald hx hb hK hP 2 0 rfl rfl g9 dX0_settle_49 ?_
          refine lv_if_ne (tgt := 58) hx hb dX0_settle_50 (by decide) (fun c50 => ?_) (fun c50 => ?_)
          · have h := h.2 c50
            refine W.widen (k := 0) (n := 0) (Nat.le_of_ble_eq_true rfl) (Nat.le_of_ble_eq_true rfl) ?_
            exact k58 _ ih x2 b_  _ _ hP hD hS _ (lv_sub hl [0, 1, 2] rfl) h
          · have h := h.1 c50
            refine lv_aload_n hx hb dX0_settle_53 rfl (lv_at hl 0 rfl) ?_
            refine lv_iload_n hx hb dX0_settle_54 rfl (lv_at hl 2 rfl) ?_
            refine z_WV (As := [.int x2]) (rest := []) (wr := ([] : va_W)) (wN := (fun u : BS => wB cI bA tA u T)) [0, 1, 2, 3, 4, 5, 6, 7, 8, 9, 10, 11, 12, 13, 14, 15] [] [0, 1, 2, 3, 4, 5, 6, 7, 8, 9, 10, 11, 12, 13, 14, 15] C hG hA hP hD hS (c_X0_begin hfl hs0 D cI cB cJ bA tA T b_ x2 h) q22 v_X0_begin rfl rfl ⟨by decide, by decide, by decide⟩ (by decide) (fun _ => rfl) rfl rfl rfl ⟨(Nat.le_of_ble_eq_true rfl), (Nat.le_of_ble_eq_true rfl)⟩ ⟨(Nat.le_of_ble_eq_true rfl), (Nat.le_of_ble_eq_true rfl)⟩ hl.1 rfl (lv_room (Nat.le_of_ble_eq_true rfl)) dX0_settle_55 (fun u H locs h hP hD hS => ?_)
            obtain ⟨b55, rfl⟩ : ∃ z, z = u := ⟨_, rfl⟩
            have hP : va_P D vwCl (wB cI bA tA b55 T) H := hP
            have hD : va_D A (wB cI bA tA b55 T) := hD
            refine W.widen (k := 0) (n := 0) (Nat.le_of_ble_eq_true rfl) (Nat.le_of_ble_eq_true rfl) ?_
            exact k58 _ ih x2 b55  _ _ hP hD hS _ (lv_sub hl [0, 1, 2] rfl) h
  unfold wpX0_settle at h
  refine lv_aload_n hx hb dX0_settle_0 rfl (lv_at hl 0 rfl) ?_
  refine lv_aload_n hx hb dX0_settle_1 rfl (lv_at hl 0 rfl) ?_
  refine lv_iload_n hx hb dX0_settle_2 rfl (lv_at hl 1 rfl) ?_
  refine z_RV (As := [.int p0]) (rest := [.ref (bA 0)]) [0, 1, 2, 3, 4, 5, 6, 7, 8, 9, 10, 11, 12, 13, 14, 15] C (hG.kept hS.1 hS.2.1).none hP (c_X0_price hfl hs0 D cI cB cJ bA tA T b p0 h) q14 v_X0_price rfl rfl rfl rfl ⟨(Nat.le_of_ble_eq_true rfl), (Nat.le_of_ble_eq_true rfl)⟩ ⟨(Nat.le_of_ble_eq_true rfl), (Nat.le_of_ble_eq_true rfl)⟩ hl.1 rfl (lv_room (Nat.le_of_ble_eq_true rfl)) dX0_settle_3 (fun r3 h => ?_)
  refine lv_iload_n hx hb dX0_settle_6 rfl (lv_at hl 1 rfl) ?_
  refine z_WV (As := [.int r3, .int p0]) (rest := []) (wr := ([] : va_W)) (wN := (fun u : BS => wB cI bA tA u T)) [0, 1, 2, 3, 4, 5, 6, 7, 8, 9, 10, 11, 12, 13, 14, 15] [] [0, 1, 2, 3, 4, 5, 6, 7, 8, 9, 10, 11, 12, 13, 14, 15] C hG hA hP hD hS (c_X0_move hfl hs0 D cI cB cJ bA tA T b r3 p0 h) q31 v_X0_move rfl rfl ⟨by decide, by decide, by decide⟩ (by decide) (fun _ => rfl) rfl rfl rfl ⟨(Nat.le_of_ble_eq_true rfl), (Nat.le_of_ble_eq_true rfl)⟩ ⟨(Nat.le_of_ble_eq_true rfl), (Nat.le_of_ble_eq_true rfl)⟩ hl.1 rfl (lv_room (Nat.le_of_ble_eq_true rfl)) dX0_settle_7 (fun u H locs h hP hD hS => ?_)
  obtain ⟨b7, rfl⟩ : ∃ z, z = u := ⟨_, rfl⟩
  have hP : va_P D vwCl (wB cI bA tA b7 T) H := hP
  have hD : va_D A (wB cI bA tA b7 T) := hD
  refine lv_aload_n hx hb dX0_settle_10 rfl (lv_at hl 0 rfl) ?_
  refine lv_iload_n hx hb dX0_settle_11 rfl (lv_at hl 1 rfl) ?_
  refine lv_iconst (v := 3) hx hb dX0_settle_12 (by decide) ?_
  refine z_WV (As := [.int p0, .int 3]) (rest := []) (wr := ([] : va_W)) (wN := (fun u : BS => wB cI bA tA u T)) [0, 1, 2, 3, 4, 5, 6, 7, 8, 9, 10, 11, 12, 13, 14, 15] [] [0, 1, 2, 3, 4, 5, 6, 7, 8, 9, 10, 11, 12, 13, 14, 15] C hG hA hP hD hS (c_X0_end hfl hs0 D cI cB cJ bA tA T b7 p0 3 h) q26 v_X0_end rfl rfl ⟨by decide, by decide, by decide⟩ (by decide) (fun _ => rfl) rfl rfl rfl ⟨(Nat.le_of_ble_eq_true rfl), (Nat.le_of_ble_eq_true rfl)⟩ ⟨(Nat.le_of_ble_eq_true rfl), (Nat.le_of_ble_eq_true rfl)⟩ hl.1 rfl (lv_room (Nat.le_of_ble_eq_true rfl)) dX0_settle_13 (fun u H locs h hP hD hS => ?_)
  obtain ⟨b13, rfl⟩ : ∃ z, z = u := ⟨_, rfl⟩
  have hP : va_P D vwCl (wB cI bA tA b13 T) H := hP
  have hD : va_D A (wB cI bA tA b13 T) := hD
  refine lv_iload_n hx hb dX0_settle_16 rfl (lv_at hl 1 rfl) ?_
  refine lv_iconst (v := 1) hx hb dX0_settle_17 (by decide) ?_
  refine lv_iadd hx hb dX0_settle_18 ?_
  refine lv_istore_n (lv' := [(2, .int (p0 + 1)), (0, .ref (bA 0)), (1, .int p0)]) hx hb dX0_settle_19 rfl hl (by decide) rfl (fun ls hl => ?_)
  refine W.widen (k := 0) (n := 0) (Nat.le_of_ble_eq_true rfl) (Nat.le_of_ble_eq_true rfl) ?_
  obtain ⟨n9, h⟩ := h
  exact k20 n9 (p0 + 1) b13  _ _ hP hD hS _ (lv_sub hl [1, 2, 0] rfl) h
def wpX0_releaseWaitingBehind_b52 (post : Int32 → BS → Prop) (T : TS) (p0 : Int32) (K6 : Int32 → Int32 → BS → Prop) (x2 : Int32) (x3 : Int32) (b_ : BS) : Prop := K6 x2 (x3 + 1) b_
def wpX0_releaseWaitingBehind_b6 (post : Int32 → BS → Prop) (T : TS) (p0 : Int32) : Nat → Int32 → Int32 → BS → Prop
  | 0, _, _, _ => False
  | n + 1, x2, x3, b_ => (T.2.2.2.2.2.2.2.2.2.2 ≤ x3 → post x2 b_) ∧ (¬ T.2.2.2.2.2.2.2.2.2.2 ≤ x3 → vp_in x3 20 ∧ (((b_.2.1 x3.toNatClampNeg) = 0 → vp_in x3 20 ∧ (wpX0_isGone (fun r36 => (r36 = 0 → wpX0_releaseWaitingBehind_b52 post T p0 (fun z0 z1 z2 => wpX0_releaseWaitingBehind_b6 post T p0 n z0 z1 z2) x2 x3 b_) ∧ (¬ r36 = 0 → vp_in x3 20 ∧ (wpX0_releaseWaitingBehind_b52 post T p0 (fun z0 z1 z2 => wpX0_releaseWaitingBehind_b6 post T p0 n z0 z1 z2) (x2 + 1) x3 (b_.1, (upd b_.2.1 x3.toNatClampNeg 5), b_.2.2.1, b_.2.2.2.1, b_.2.2.2.2)))) T b_ (T.2.2.2.2.2.2.1 x3.toNatClampNeg))) ∧ (¬ (b_.2.1 x3.toNatClampNeg) = 0 → wpX0_releaseWaitingBehind_b52 post T p0 (fun z0 z1 z2 => wpX0_releaseWaitingBehind_b6 post T p0 n z0 z1 z2) x2 x3 b_)))
def wpX0_releaseWaitingBehind (post : Int32 → BS → Prop) (T : TS) (b : BS) (p0 : Int32) : Prop := ∃ n6 : Nat, wpX0_releaseWaitingBehind_b6 post T p0 n6 0 (p0 + 1) b
set_option maxHeartbeats 4000000 in
set_option maxRecDepth 100000 in
theorem c_X0_releaseWaitingBehind {l : Launch} (hfl : l.stackTraces = false) {s0 : State} (hs0 : zS s0) (D : va_G) (cI cB cJ : ClassId) (bA : Nat → Nat) (tA : Nat → Nat) (T : TS) (b : BS) (p0 : Int32) {post : Int32 → BS → Prop} (h : wpX0_releaseWaitingBehind post T b p0) : zW s0 l D (zty cI cB cJ) yX0_releaseWaitingBehind cX0_releaseWaitingBehind 4 (some .int) 2 0 0 [.ref (bA 0), .int p0] (wB cI bA tA b T) (fun u : Int32 × BS => some (Value.int u.1)) (fun u : Int32 × BS => post u.1 u.2) (fun u : Int32 × BS => wB cI bA tA u.2 T) := by
  refine zW_intro (by decide +kernel) (Nat.le_of_ble_eq_true rfl) ?_
  intro p e s m below meth c A C hnm hA hG hP hD hS ls hl
  have C : zC D (zty cI cB cJ) p s m ([.ref (bA 0), .int p0] : List Value).toArray meth c cX0_releaseWaitingBehind RX0 (some .int) 4 := C
  have hx := C.1
  have hb := C.2.1
  have hts := C.2.2.1
  have hown := C.2.2.2.1
  have hml := C.2.2.2.2.2.1
  have hK := C.2.2.2.2.2.2.2
  have hl : lv_has ls 4 [(0, .ref (bA 0)), (1, .int p0)] := hl
  have hP : va_P D vwCl (wB cI bA tA b T) s.heap := hP
  have hD : va_D A (wB cI bA tA b T) := hD
  have k52 : ∀ (K6 : Int32 → Int32 → BS → Prop) (hK6 : ∀ (x2 : Int32) (x3 : Int32) (b_ : BS) (H : Heap) (locs : List Loc), va_P D vwCl (wB cI bA tA b_ T) H → va_D A (wB cI bA tA b_ T) → va_S A s.heap H locs → ∀ (ls : Array Slot), lv_has ls 4 [(0, .ref (bA 0)), (2, .int x2), (3, .int x3)] → K6 x2 x3 b_ → W p l e (zr 2 0 0) s m ([.ref (bA 0), .int p0] : List Value).toArray below meth c H locs 0 0 (MQ below (zQ D (fun u : Int32 × BS => some (Value.int u.1)) (fun u : Int32 × BS => post u.1 u.2) (fun u : Int32 × BS => wB cI bA tA u.2 T) A) ([.ref (bA 0), .int p0] : List Value).toArray s 0 0 A) (F0 m 6 ls [])), ∀ (x2 : Int32) (x3 : Int32) (b_ : BS) (H : Heap) (locs : List Loc), va_P D vwCl (wB cI bA tA b_ T) H → va_D A (wB cI bA tA b_ T) → va_S A s.heap H locs → ∀ (ls : Array Slot), lv_has ls 4 [(0, .ref (bA 0)), (2, .int x2), (3, .int x3)] → wpX0_releaseWaitingBehind_b52 post T p0 K6 x2 x3 b_ → W p l e (zr 2 0 0) s m ([.ref (bA 0), .int p0] : List Value).toArray below meth c H locs 0 0 (MQ below (zQ D (fun u : Int32 × BS => some (Value.int u.1)) (fun u : Int32 × BS => post u.1 u.2) (fun u : Int32 × BS => wB cI bA tA u.2 T) A) ([.ref (bA 0), .int p0] : List Value).toArray s 0 0 A) (F0 m 52 ls []) := by
    intro K6 hK6
    intro x2 x3 b_ H locs hP hD hS ls hl h
    unfold wpX0_releaseWaitingBehind_b52 at h
    refine lv_iinc (v := (x3 + 1)) (lv' := [(3, .int (x3 + 1)), (0, .ref (bA 0)), (2, .int x2)]) hx hb dX0_releaseWaitingBehind_52 hl (k := 2) rfl (by first | rfl | decide) (by decide) rfl (fun ls hl => ?_)
    refine lv_goto (tgt := 6) hx hb dX0_releaseWaitingBehind_55 (by decide) ?_
    refine W.widen (k := 0) (n := 0) (Nat.le_of_ble_eq_true rfl) (Nat.le_of_ble_eq_true rfl) ?_
    exact hK6 x2 (x3 + 1) b_  _ _ hP hD hS _ (lv_sub hl [1, 2, 0] rfl) h
  have k6 : ∀ (n : Nat) (x2 : Int32) (x3 : Int32) (b_ : BS) (H : Heap) (locs : List Loc), va_P D vwCl (wB cI bA tA b_ T) H → va_D A (wB cI bA tA b_ T) → va_S A s.heap H locs → ∀ (ls : Array Slot), lv_has ls 4 [(0, .ref (bA 0)), (2, .int x2), (3, .int x3)] → wpX0_releaseWaitingBehind_b6 post T p0 n x2 x3 b_ → W p l e (zr 2 0 0) s m ([.ref (bA 0), .int p0] : List Value).toArray below meth c H locs 0 0 (MQ below (zQ D (fun u : Int32 × BS => some (Value.int u.1)) (fun u : Int32 × BS => post u.1 u.2) (fun u : Int32 × BS => wB cI bA tA u.2 T) A) ([.ref (bA 0), .int p0] : List Value).toArray s 0 0 A) (F0 m 6 ls []) := by
    intro n
    induction n with
    | zero =>
      intro x2 x3 b_ H locs hP hD hS ls hl h
      exact h.elim
    | succ n ih =>
      intro x2 x3 b_ H locs hP hD hS ls hl h
      rw [wpX0_releaseWaitingBehind_b6] at h
      refine lv_iload_n hx hb dX0_releaseWaitingBehind_6 rfl (lv_at hl 2 rfl) ?_
      refine lv_aload_n hx hb dX0_releaseWaitingBehind_7 rfl (lv_at hl 0 rfl) ?_
      refine z_get C f_X0_24 hP (q0 := 0) rfl rfl dX0_releaseWaitingBehind_8 ?_
      refine z_get C f_X0_74 hP (q0 := 5) rfl rfl dX0_releaseWaitingBehind_11 ?_
      refine lv_icmp_ge (tgt := 58) hx hb dX0_releaseWaitingBehind_14 (by decide) (fun c14 => ?_) (fun c14 => ?_)
      · have h := h.1 c14
        refine lv_iload_n hx hb dX0_releaseWaitingBehind_58 rfl (lv_at hl 1 rfl) ?_
        exact zW_iret C (x2, b_) rfl h hP hD hS (Nat.le_of_ble_eq_true rfl) (Nat.le_of_ble_eq_true rfl) dX0_releaseWaitingBehind_59
      · have h := h.2 c14
        refine lv_aload_n hx hb dX0_releaseWaitingBehind_17 rfl (lv_at hl 0 rfl) ?_
        refine z_get C f_X0_15 hP (q0 := 0) rfl rfl dX0_releaseWaitingBehind_18 ?_
        refine lv_iload_n hx hb dX0_releaseWaitingBehind_21 rfl (lv_at hl 2 rfl) ?_
        obtain ⟨g9, h⟩ := h
        refine va_iald hx hb hK hP 2 0 rfl rfl g9 dX0_releaseWaitingBehind_22 ?_
        refine lv_if_ne (tgt := 52) hx hb dX0_releaseWaitingBehind_23 (by decide) (fun c23 => ?_) (fun c23 => ?_)
        · have h := h.2 c23
          refine W.widen (k := 0) (n := 0) (Nat.le_of_ble_eq_true rfl) (Nat.le_of_ble_eq_true rfl) ?_
          exact k52 _ ih x2 x3 b_  _ _ hP hD hS _ (lv_sub hl [0, 1, 2] rfl) h
        · have h := h.1 c23
          refine lv_aload_n hx hb dX0_releaseWaitingBehind_26 rfl (lv_at hl 0 rfl) ?_
          refine lv_aload_n hx hb dX0_releaseWaitingBehind_27 rfl (lv_at hl 0 rfl) ?_
          refine z_get C f_X0_24 hP (q0 := 0) rfl rfl dX0_releaseWaitingBehind_28 ?_
          refine z_get C f_X0_57 hP (q0 := 5) rfl rfl dX0_releaseWaitingBehind_31 ?_
          refine lv_iload_n hx hb dX0_releaseWaitingBehind_34 rfl (lv_at hl 2 rfl) ?_
          obtain ⟨g9, h⟩ := h
          refine va_iald hx hb hK hP 12 0 rfl rfl g9 dX0_releaseWaitingBehind_35 ?_
          refine z_RV (As := [.int (T.2.2.2.2.2.2.1 x3.toNatClampNeg)]) (rest := []) [0, 1, 2, 3, 4, 5, 6, 7, 8, 9, 10, 11, 12, 13, 14, 15] C (hG.kept hS.1 hS.2.1).none hP (c_X0_isGone hfl hs0 D cI cB cJ bA tA T b_ (T.2.2.2.2.2.2.1 x3.toNatClampNeg) h) q36 v_X0_isGone rfl rfl rfl rfl ⟨(Nat.le_of_ble_eq_true rfl), (Nat.le_of_ble_eq_true rfl)⟩ ⟨(Nat.le_of_ble_eq_true rfl), (Nat.le_of_ble_eq_true rfl)⟩ hl.1 rfl (lv_room (Nat.le_of_ble_eq_true rfl)) dX0_releaseWaitingBehind_36 (fun r36 h => ?_)
          refine lv_if_eq (tgt := 52) hx hb dX0_releaseWaitingBehind_39 (by decide) (fun c39 => ?_) (fun c39 => ?_)
          · have h := h.1 c39
            refine W.widen (k := 0) (n := 0) (Nat.le_of_ble_eq_true rfl) (Nat.le_of_ble_eq_true rfl) ?_
            exact k52 _ ih x2 x3 b_  _ _ hP hD hS _ (lv_sub hl [0, 1, 2] rfl) h
          · have h := h.2 c39
            refine lv_aload_n hx hb dX0_releaseWaitingBehind_42 rfl (lv_at hl 0 rfl) ?_
            refine z_get C f_X0_15 hP (q0 := 0) rfl rfl dX0_releaseWaitingBehind_43 ?_
            refine lv_iload_n hx hb dX0_releaseWaitingBehind_46 rfl (lv_at hl 2 rfl) ?_
            refine lv_iconst (v := 5) hx hb dX0_releaseWaitingBehind_47 (by decide) ?_
            obtain ⟨g9, h⟩ := h
            refine va_iast hx hb hK hP hD hS 2 0 rfl rfl g9 dX0_releaseWaitingBehind_48 (fun H locs hP hD hS => ?_)
            have hP : va_P D vwCl (wB cI bA tA (b_.1, (upd b_.2.1 x3.toNatClampNeg 5), b_.2.2.1, b_.2.2.2.1, b_.2.2.2.2) T) H := hP
            have hD : va_D A (wB cI bA tA (b_.1, (upd b_.2.1 x3.toNatClampNeg 5), b_.2.2.1, b_.2.2.2.1, b_.2.2.2.2) T) := hD
            refine lv_iinc (v := (x2 + 1)) (lv' := [(2, .int (x2 + 1)), (0, .ref (bA 0)), (3, .int x3)]) hx hb dX0_releaseWaitingBehind_49 hl (k := 1) rfl (by first | rfl | decide) (by decide) rfl (fun ls hl => ?_)
            refine W.widen (k := 0) (n := 0) (Nat.le_of_ble_eq_true rfl) (Nat.le_of_ble_eq_true rfl) ?_
            exact k52 _ ih (x2 + 1) x3 (b_.1, (upd b_.2.1 x3.toNatClampNeg 5), b_.2.2.1, b_.2.2.2.1, b_.2.2.2.2)  _ _ hP hD hS _ (lv_sub hl [1, 0, 2] rfl) h
  unfold wpX0_releaseWaitingBehind at h
  refine lv_iconst (v := 0) hx hb dX0_releaseWaitingBehind_0 (by decide) ?_
  refine lv_istore_n (lv' := [(2, .int 0), (0, .ref (bA 0)), (1, .int p0)]) hx hb dX0_releaseWaitingBehind_1 rfl hl (by decide) rfl (fun ls hl => ?_)
  refine lv_iload_n hx hb dX0_releaseWaitingBehind_2 rfl (lv_at hl 2 rfl) ?_
  refine lv_iconst (v := 1) hx hb dX0_releaseWaitingBehind_3 (by decide) ?_
  refine lv_iadd hx hb dX0_releaseWaitingBehind_4 ?_
  refine lv_istore_n (lv' := [(3, .int (p0 + 1)), (2, .int 0), (0, .ref (bA 0)), (1, .int p0)]) hx hb dX0_releaseWaitingBehind_5 rfl hl (by decide) rfl (fun ls hl => ?_)
  refine W.widen (k := 0) (n := 0) (Nat.le_of_ble_eq_true rfl) (Nat.le_of_ble_eq_true rfl) ?_
  obtain ⟨n9, h⟩ := h
  exact k6 n9 0 (p0 + 1) b  _ _ hP hD hS _ (lv_sub hl [2, 1, 0] rfl) h
def wpX0_fail (post : BS → Prop) (T : TS) (b : BS) (p0 : Int32) : Prop := vp_in p0 20 ∧ (vp_in p0 20 ∧ (vp_in (T.1 p0.toNatClampNeg) 6 ∧ (wpX0_move (fun b30 => wpX0_end (fun b46 => wpX0_releaseWaitingBehind (fun r51 b51 => post b51) T b46 p0) T (b30.1, b30.2.1, b30.2.2.1, b30.2.2.2.1, (b30.2.2.2.2 + (if (b.1 (T.1 p0.toNatClampNeg).toNatClampNeg) < (T.2.2.2.2.2.1 p0.toNatClampNeg) then (b.1 (T.1 p0.toNatClampNeg).toNatClampNeg) else (T.2.2.2.2.2.1 p0.toNatClampNeg)))) p0 4) T b (if (b.1 (T.1 p0.toNatClampNeg).toNatClampNeg) < (T.2.2.2.2.2.1 p0.toNatClampNeg) then (b.1 (T.1 p0.toNatClampNeg).toNatClampNeg) else (T.2.2.2.2.2.1 p0.toNatClampNeg)) p0)))
set_option maxHeartbeats 4000000 in
set_option maxRecDepth 100000 in
theorem c_X0_fail {l : Launch} (hfl : l.stackTraces = false) {s0 : State} (hs0 : zS s0) (D : va_G) (cI cB cJ : ClassId) (bA : Nat → Nat) (tA : Nat → Nat) (T : TS) (b : BS) (p0 : Int32) {post : BS → Prop} (h : wpX0_fail post T b p0) : zW s0 l D (zty cI cB cJ) yX0_fail cX0_fail 3 none 3 0 0 [.ref (bA 0), .int p0] (wB cI bA tA b T) (fun _ : BS => none) (fun u : BS => post u) (fun u : BS => wB cI bA tA u T) := by
  refine zW_intro (by decide +kernel) (Nat.le_of_ble_eq_true rfl) ?_
  intro p e s m below meth c A C hnm hA hG hP hD hS ls hl
  have C : zC D (zty cI cB cJ) p s m ([.ref (bA 0), .int p0] : List Value).toArray meth c cX0_fail RX0 none 3 := C
  have hx := C.1
  have hb := C.2.1
  have hts := C.2.2.1
  have hown := C.2.2.2.1
  have hml := C.2.2.2.2.2.1
  have hK := C.2.2.2.2.2.2.2
  have hl : lv_has ls 3 [(0, .ref (bA 0)), (1, .int p0)] := hl
  have hP : va_P D vwCl (wB cI bA tA b T) s.heap := hP
  have hD : va_D A (wB cI bA tA b T) := hD
  unfold wpX0_fail at h
  refine lv_aload_n hx hb dX0_fail_0 rfl (lv_at hl 0 rfl) ?_
  refine z_get C f_X0_24 hP (q0 := 0) rfl rfl dX0_fail_1 ?_
  refine z_get C f_X0_43 hP (q0 := 5) rfl rfl dX0_fail_4 ?_
  refine lv_iload_n hx hb dX0_fail_7 rfl (lv_at hl 1 rfl) ?_
  obtain ⟨g9, h⟩ := h
  refine va_iald hx hb hK hP 11 0 rfl rfl g9 dX0_fail_8 ?_
  refine lv_aload_n hx hb dX0_fail_9 rfl (lv_at hl 0 rfl) ?_
  refine z_get C f_X0_9 hP (q0 := 0) rfl rfl dX0_fail_10 ?_
  refine lv_aload_n hx hb dX0_fail_13 rfl (lv_at hl 0 rfl) ?_
  refine z_get C f_X0_24 hP (q0 := 0) rfl rfl dX0_fail_14 ?_
  refine z_get C f_X0_50 hP (q0 := 5) rfl rfl dX0_fail_17 ?_
  refine lv_iload_n hx hb dX0_fail_20 rfl (lv_at hl 1 rfl) ?_
  obtain ⟨g9, h⟩ := h
  refine va_iald hx hb hK hP 6 0 rfl rfl g9 dX0_fail_21 ?_
  obtain ⟨g9, h⟩ := h
  refine va_iald hx hb hK hP 1 0 rfl rfl g9 dX0_fail_22 ?_
  refine va_mmin hx hb (hml.trans hl.1.symm) hown (hts _ q42) (hts _ q43) (hts _ q44) (hts _ q45) (Nat.le_of_ble_eq_true rfl) (Nat.le_of_ble_eq_true rfl) (Nat.le_of_ble_eq_true rfl) (Nat.le_of_ble_eq_true rfl) dX0_fail_23 ?_
  refine lv_istore_n (lv' := [(2, .int (if (b.1 (T.1 p0.toNatClampNeg).toNatClampNeg) < (T.2.2.2.2.2.1 p0.toNatClampNeg) then (b.1 (T.1 p0.toNatClampNeg).toNatClampNeg) else (T.2.2.2.2.2.1 p0.toNatClampNeg))), (0, .ref (bA 0)), (1, .int p0)]) hx hb dX0_fail_26 rfl hl (by decide) rfl (fun ls hl => ?_)
  refine lv_aload_n hx hb dX0_fail_27 rfl (lv_at hl 1 rfl) ?_
  refine lv_iload_n hx hb dX0_fail_28 rfl (lv_at hl 0 rfl) ?_
  refine lv_iload_n hx hb dX0_fail_29 rfl (lv_at hl 2 rfl) ?_
  refine z_WV (As := [.int (if (b.1 (T.1 p0.toNatClampNeg).toNatClampNeg) < (T.2.2.2.2.2.1 p0.toNatClampNeg) then (b.1 (T.1 p0.toNatClampNeg).toNatClampNeg) else (T.2.2.2.2.2.1 p0.toNatClampNeg)), .int p0]) (rest := []) (wr := ([] : va_W)) (wN := (fun u : BS => wB cI bA tA u T)) [0, 1, 2, 3, 4, 5, 6, 7, 8, 9, 10, 11, 12, 13, 14, 15] [] [0, 1, 2, 3, 4, 5, 6, 7, 8, 9, 10, 11, 12, 13, 14, 15] C hG hA hP hD hS (c_X0_move hfl hs0 D cI cB cJ bA tA T b (if (b.1 (T.1 p0.toNatClampNeg).toNatClampNeg) < (T.2.2.2.2.2.1 p0.toNatClampNeg) then (b.1 (T.1 p0.toNatClampNeg).toNatClampNeg) else (T.2.2.2.2.2.1 p0.toNatClampNeg)) p0 h) q31 v_X0_move rfl rfl ⟨by decide, by decide, by decide⟩ (by decide) (fun _ => rfl) rfl rfl rfl ⟨(Nat.le_of_ble_eq_true rfl), (Nat.le_of_ble_eq_true rfl)⟩ ⟨(Nat.le_of_ble_eq_true rfl), (Nat.le_of_ble_eq_true rfl)⟩ hl.1 rfl (lv_room (Nat.le_of_ble_eq_true rfl)) dX0_fail_30 (fun u H locs h hP hD hS => ?_)
  obtain ⟨b30, rfl⟩ : ∃ z, z = u := ⟨_, rfl⟩
  have hP : va_P D vwCl (wB cI bA tA b30 T) H := hP
  have hD : va_D A (wB cI bA tA b30 T) := hD
  refine lv_aload_n hx hb dX0_fail_33 rfl (lv_at hl 1 rfl) ?_
  refine lv_dup hx hb dX0_fail_34 rfl ?_
  refine z_get C f_X0_34 hP (q0 := 0) rfl rfl dX0_fail_35 ?_
  refine lv_iload_n hx hb dX0_fail_38 rfl (lv_at hl 0 rfl) ?_
  refine lv_iadd hx hb dX0_fail_39 ?_
  refine z_put C f_X0_34 zt_X0 rfl rfl rfl rfl hP hD hS (q0 := 0) rfl (Nat.le_of_ble_eq_true rfl) dX0_fail_40 (fun H locs hP hD hS => ?_)
  have hP : va_P D vwCl (wB cI bA tA (b30.1, b30.2.1, b30.2.2.1, b30.2.2.2.1, (b30.2.2.2.2 + (if (b.1 (T.1 p0.toNatClampNeg).toNatClampNeg) < (T.2.2.2.2.2.1 p0.toNatClampNeg) then (b.1 (T.1 p0.toNatClampNeg).toNatClampNeg) else (T.2.2.2.2.2.1 p0.toNatClampNeg)))) T) H := hP
  have hD : va_D A (wB cI bA tA (b30.1, b30.2.1, b30.2.2.1, b30.2.2.2.1, (b30.2.2.2.2 + (if (b.1 (T.1 p0.toNatClampNeg).toNatClampNeg) < (T.2.2.2.2.2.1 p0.toNatClampNeg) then (b.1 (T.1 p0.toNatClampNeg).toNatClampNeg) else (T.2.2.2.2.2.1 p0.toNatClampNeg)))) T) := hD
  refine lv_aload_n hx hb dX0_fail_43 rfl (lv_at hl 1 rfl) ?_
  refine lv_iload_n hx hb dX0_fail_44 rfl (lv_at hl 2 rfl) ?_
  refine lv_iconst (v := 4) hx hb dX0_fail_45 (by decide) ?_
  refine z_WV (As := [.int p0, .int 4]) (rest := []) (wr := ([] : va_W)) (wN := (fun u : BS => wB cI bA tA u T)) [0, 1, 2, 3, 4, 5, 6, 7, 8, 9, 10, 11, 12, 13, 14, 15] [] [0, 1, 2, 3, 4, 5, 6, 7, 8, 9, 10, 11, 12, 13, 14, 15] C hG hA hP hD hS (c_X0_end hfl hs0 D cI cB cJ bA tA T (b30.1, b30.2.1, b30.2.2.1, b30.2.2.2.1, (b30.2.2.2.2 + (if (b.1 (T.1 p0.toNatClampNeg).toNatClampNeg) < (T.2.2.2.2.2.1 p0.toNatClampNeg) then (b.1 (T.1 p0.toNatClampNeg).toNatClampNeg) else (T.2.2.2.2.2.1 p0.toNatClampNeg)))) p0 4 h) q26 v_X0_end rfl rfl ⟨by decide, by decide, by decide⟩ (by decide) (fun _ => rfl) rfl rfl rfl ⟨(Nat.le_of_ble_eq_true rfl), (Nat.le_of_ble_eq_true rfl)⟩ ⟨(Nat.le_of_ble_eq_true rfl), (Nat.le_of_ble_eq_true rfl)⟩ hl.1 rfl (lv_room (Nat.le_of_ble_eq_true rfl)) dX0_fail_46 (fun u H locs h hP hD hS => ?_)
  obtain ⟨b46, rfl⟩ : ∃ z, z = u := ⟨_, rfl⟩
  have hP : va_P D vwCl (wB cI bA tA b46 T) H := hP
  have hD : va_D A (wB cI bA tA b46 T) := hD
  refine lv_aload_n hx hb dX0_fail_49 rfl (lv_at hl 1 rfl) ?_
  refine lv_iload_n hx hb dX0_fail_50 rfl (lv_at hl 2 rfl) ?_
  refine z_WV (As := [.int p0]) (rest := []) (wr := ([] : va_W)) (wN := (fun u : Int32 × BS => wB cI bA tA u.2 T)) [0, 1, 2, 3, 4, 5, 6, 7, 8, 9, 10, 11, 12, 13, 14, 15] [] [0, 1, 2, 3, 4, 5, 6, 7, 8, 9, 10, 11, 12, 13, 14, 15] C hG hA hP hD hS (c_X0_releaseWaitingBehind hfl hs0 D cI cB cJ bA tA T b46 p0 h) q41 v_X0_releaseWaitingBehind rfl rfl ⟨by decide, by decide, by decide⟩ (by decide) (fun _ => rfl) rfl rfl rfl ⟨(Nat.le_of_ble_eq_true rfl), (Nat.le_of_ble_eq_true rfl)⟩ ⟨(Nat.le_of_ble_eq_true rfl), (Nat.le_of_ble_eq_true rfl)⟩ hl.1 rfl (lv_room (Nat.le_of_ble_eq_true rfl)) dX0_fail_51 (fun u H locs h hP hD hS => ?_)
  obtain ⟨r51, b51⟩ := u
  have hP : va_P D vwCl (wB cI bA tA b51 T) H := hP
  have hD : va_D A (wB cI bA tA b51 T) := hD
  refine lv_pop hx hb dX0_fail_54 rfl ?_
  exact zW_vret C b51 rfl h hP hD hS (Nat.le_of_ble_eq_true rfl) (Nat.le_of_ble_eq_true rfl) dX0_fail_55
def wpX0_runsOutToday_b72 (post : Int32 → BS → Prop) (T : TS) (p0 : Int32) (b_ : BS) : Prop := vp_in p0 20 ∧ (((b_.2.2.1 p0.toNatClampNeg) = 0 → post 1 b_) ∧ (¬ (b_.2.2.1 p0.toNatClampNeg) = 0 → post 0 b_))
def wpX0_runsOutToday (post : Int32 → BS → Prop) (T : TS) (b : BS) (p0 : Int32) : Prop := vp_in p0 20 ∧ (((b.2.2.2.1 p0.toNatClampNeg) ≤ 0 → vp_in p0 20 ∧ (vp_in p0 20 ∧ (vp_in p0 20 ∧ ((((upd b.2.2.1 p0.toNatClampNeg ((b.2.2.1 p0.toNatClampNeg) - 1)) p0.toNatClampNeg) = 0 → vp_in p0 20 ∧ (((b.2.1 p0.toNatClampNeg) = 1 → vp_in p0 20 ∧ (vp_in p0 20 ∧ (vp_in p0 20 ∧ (wpX0_runsOutToday_b72 post T p0 (b.1, (upd b.2.1 p0.toNatClampNeg 2), (upd (upd b.2.2.1 p0.toNatClampNeg ((b.2.2.1 p0.toNatClampNeg) - 1)) p0.toNatClampNeg (T.2.2.2.2.1 p0.toNatClampNeg)), b.2.2.2.1, b.2.2.2.2))))) ∧ (¬ (b.2.1 p0.toNatClampNeg) = 1 → wpX0_runsOutToday_b72 post T p0 (b.1, b.2.1, (upd b.2.2.1 p0.toNatClampNeg ((b.2.2.1 p0.toNatClampNeg) - 1)), b.2.2.2.1, b.2.2.2.2)))) ∧ (¬ ((upd b.2.2.1 p0.toNatClampNeg ((b.2.2.1 p0.toNatClampNeg) - 1)) p0.toNatClampNeg) = 0 → wpX0_runsOutToday_b72 post T p0 (b.1, b.2.1, (upd b.2.2.1 p0.toNatClampNeg ((b.2.2.1 p0.toNatClampNeg) - 1)), b.2.2.2.1, b.2.2.2.2)))))) ∧ (¬ (b.2.2.2.1 p0.toNatClampNeg) ≤ 0 → vp_in p0 20 ∧ (vp_in p0 20 ∧ (post 0 (b.1, b.2.1, b.2.2.1, (upd b.2.2.2.1 p0.toNatClampNeg ((b.2.2.2.1 p0.toNatClampNeg) - 1)), b.2.2.2.2)))))
set_option maxHeartbeats 4000000 in
set_option maxRecDepth 100000 in
theorem c_X0_runsOutToday {l : Launch} (hfl : l.stackTraces = false) {s0 : State} (hs0 : zS s0) (D : va_G) (cI cB cJ : ClassId) (bA : Nat → Nat) (tA : Nat → Nat) (T : TS) (b : BS) (p0 : Int32) {post : Int32 → BS → Prop} (h : wpX0_runsOutToday post T b p0) : zW s0 l D (zty cI cB cJ) yX0_runsOutToday cX0_runsOutToday 2 (some .boolean) 1 0 0 [.ref (bA 0), .int p0] (wB cI bA tA b T) (fun u : Int32 × BS => some (Value.int u.1)) (fun u : Int32 × BS => post u.1 u.2) (fun u : Int32 × BS => wB cI bA tA u.2 T) := by
  refine zW_intro (by decide +kernel) (Nat.le_of_ble_eq_true rfl) ?_
  intro p e s m below meth c A C hnm hA hG hP hD hS ls hl
  have C : zC D (zty cI cB cJ) p s m ([.ref (bA 0), .int p0] : List Value).toArray meth c cX0_runsOutToday RX0 (some .boolean) 2 := C
  have hx := C.1
  have hb := C.2.1
  have hts := C.2.2.1
  have hown := C.2.2.2.1
  have hml := C.2.2.2.2.2.1
  have hK := C.2.2.2.2.2.2.2
  have hl : lv_has ls 2 [(0, .ref (bA 0)), (1, .int p0)] := hl
  have hP : va_P D vwCl (wB cI bA tA b T) s.heap := hP
  have hD : va_D A (wB cI bA tA b T) := hD
  have k72 : ∀ (b_ : BS) (H : Heap) (locs : List Loc), va_P D vwCl (wB cI bA tA b_ T) H → va_D A (wB cI bA tA b_ T) → va_S A s.heap H locs → ∀ (ls : Array Slot), lv_has ls 2 [(0, .ref (bA 0)), (1, .int p0)] → wpX0_runsOutToday_b72 post T p0 b_ → W p l e (zr 1 0 0) s m ([.ref (bA 0), .int p0] : List Value).toArray below meth c H locs 0 0 (MQ below (zQ D (fun u : Int32 × BS => some (Value.int u.1)) (fun u : Int32 × BS => post u.1 u.2) (fun u : Int32 × BS => wB cI bA tA u.2 T) A) ([.ref (bA 0), .int p0] : List Value).toArray s 0 0 A) (F0 m 72 ls []) := by
    intro b_ H locs hP hD hS ls hl h
    unfold wpX0_runsOutToday_b72 at h
    refine lv_aload_n hx hb dX0_runsOutToday_72 rfl (lv_at hl 0 rfl) ?_
    refine z_get C f_X0_18 hP (q0 := 0) rfl rfl dX0_runsOutToday_73 ?_
    refine lv_iload_n hx hb dX0_runsOutToday_76 rfl (lv_at hl 1 rfl) ?_
    obtain ⟨g9, h⟩ := h
    refine va_iald hx hb hK hP 3 0 rfl rfl g9 dX0_runsOutToday_77 ?_
    refine lv_if_ne (tgt := 85) hx hb dX0_runsOutToday_78 (by decide) (fun c78 => ?_) (fun c78 => ?_)
    · have h := h.2 c78
      refine lv_iconst (v := 0) hx hb dX0_runsOutToday_85 (by decide) ?_
      exact zW_zret C rfl (0, b_) rfl h hP hD hS (Nat.le_of_ble_eq_true rfl) (Nat.le_of_ble_eq_true rfl) dX0_runsOutToday_86
    · have h := h.1 c78
      refine lv_iconst (v := 1) hx hb dX0_runsOutToday_81 (by decide) ?_
      refine lv_goto (tgt := 86) hx hb dX0_runsOutToday_82 (by decide) ?_
      exact zW_zret C rfl (1, b_) rfl h hP hD hS (Nat.le_of_ble_eq_true rfl) (Nat.le_of_ble_eq_true rfl) dX0_runsOutToday_86
  unfold wpX0_runsOutToday at h
  refine lv_aload_n hx hb dX0_runsOutToday_0 rfl (lv_at hl 0 rfl) ?_
  refine z_get C f_X0_21 hP (q0 := 0) rfl rfl dX0_runsOutToday_1 ?_
  refine lv_iload_n hx hb dX0_runsOutToday_4 rfl (lv_at hl 1 rfl) ?_
  obtain ⟨g9, h⟩ := h
  refine va_iald hx hb hK hP 4 0 rfl rfl g9 dX0_runsOutToday_5 ?_
  refine lv_if_le (tgt := 21) hx hb dX0_runsOutToday_6 (by decide) (fun c6 => ?_) (fun c6 => ?_)
  · have h := h.1 c6
    refine lv_aload_n hx hb dX0_runsOutToday_21 rfl (lv_at hl 0 rfl) ?_
    refine z_get C f_X0_18 hP (q0 := 0) rfl rfl dX0_runsOutToday_22 ?_
    refine lv_iload_n hx hb dX0_runsOutToday_25 rfl (lv_at hl 1 rfl) ?_
    refine lv_dup2_11 hx hb dX0_runsOutToday_26 rfl rfl ?_
    obtain ⟨g9, h⟩ := h
    refine va_iald hx hb hK hP 3 0 rfl rfl g9 dX0_runsOutToday_27 ?_
    refine lv_iconst (v := 1) hx hb dX0_runsOutToday_28 (by decide) ?_
    refine lv_isub hx hb dX0_runsOutToday_29 ?_
    obtain ⟨g9, h⟩ := h
    refine va_iast hx hb hK hP hD hS 3 0 rfl rfl g9 dX0_runsOutToday_30 (fun H locs hP hD hS => ?_)
    have hP : va_P D vwCl (wB cI bA tA (b.1, b.2.1, (upd b.2.2.1 p0.toNatClampNeg ((b.2.2.1 p0.toNatClampNeg) - 1)), b.2.2.2.1, b.2.2.2.2) T) H := hP
    have hD : va_D A (wB cI bA tA (b.1, b.2.1, (upd b.2.2.1 p0.toNatClampNeg ((b.2.2.1 p0.toNatClampNeg) - 1)), b.2.2.2.1, b.2.2.2.2) T) := hD
    refine lv_aload_n hx hb dX0_runsOutToday_31 rfl (lv_at hl 0 rfl) ?_
    refine z_get C f_X0_18 hP (q0 := 0) rfl rfl dX0_runsOutToday_32 ?_
    refine lv_iload_n hx hb dX0_runsOutToday_35 rfl (lv_at hl 1 rfl) ?_
    obtain ⟨g9, h⟩ := h
    refine va_iald hx hb hK hP 3 0 rfl rfl g9 dX0_runsOutToday_36 ?_
    refine lv_if_ne (tgt := 72) hx hb dX0_runsOutToday_37 (by decide) (fun c37 => ?_) (fun c37 => ?_)
    · have h := h.2 c37
      refine W.widen (k := 0) (n := 0) (Nat.le_of_ble_eq_true rfl) (Nat.le_of_ble_eq_true rfl) ?_
      exact k72 (b.1, b.2.1, (upd b.2.2.1 p0.toNatClampNeg ((b.2.2.1 p0.toNatClampNeg) - 1)), b.2.2.2.1, b.2.2.2.2)  _ _ hP hD hS _ (lv_sub hl [0, 1] rfl) h
    · have h := h.1 c37
      refine lv_aload_n hx hb dX0_runsOutToday_40 rfl (lv_at hl 0 rfl) ?_
      refine z_get C f_X0_15 hP (q0 := 0) rfl rfl dX0_runsOutToday_41 ?_
      refine lv_iload_n hx hb dX0_runsOutToday_44 rfl (lv_at hl 1 rfl) ?_
      obtain ⟨g9, h⟩ := h
      refine va_iald hx hb hK hP 2 0 rfl rfl g9 dX0_runsOutToday_45 ?_
      refine lv_iconst (v := 1) hx hb dX0_runsOutToday_46 (by decide) ?_
      refine lv_icmp_ne (tgt := 72) hx hb dX0_runsOutToday_47 (by decide) (fun c47 => ?_) (fun c47 => ?_)
      · have h := h.2 c47
        refine W.widen (k := 0) (n := 0) (Nat.le_of_ble_eq_true rfl) (Nat.le_of_ble_eq_true rfl) ?_
        exact k72 (b.1, b.2.1, (upd b.2.2.1 p0.toNatClampNeg ((b.2.2.1 p0.toNatClampNeg) - 1)), b.2.2.2.1, b.2.2.2.2)  _ _ hP hD hS _ (lv_sub hl [0, 1] rfl) h
      · have h := h.1 c47
        refine lv_aload_n hx hb dX0_runsOutToday_50 rfl (lv_at hl 0 rfl) ?_
        refine z_get C f_X0_15 hP (q0 := 0) rfl rfl dX0_runsOutToday_51 ?_
        refine lv_iload_n hx hb dX0_runsOutToday_54 rfl (lv_at hl 1 rfl) ?_
        refine lv_iconst (v := 2) hx hb dX0_runsOutToday_55 (by decide) ?_
        obtain ⟨g9, h⟩ := h
        refine va_iast hx hb hK hP hD hS 2 0 rfl rfl g9 dX0_runsOutToday_56 (fun H locs hP hD hS => ?_)
        have hP : va_P D vwCl (wB cI bA tA (b.1, (upd b.2.1 p0.toNatClampNeg 2), (upd b.2.2.1 p0.toNatClampNeg ((b.2.2.1 p0.toNatClampNeg) - 1)), b.2.2.2.1, b.2.2.2.2) T) H := hP
        have hD : va_D A (wB cI bA tA (b.1, (upd b.2.1 p0.toNatClampNeg 2), (upd b.2.2.1 p0.toNatClampNeg ((b.2.2.1 p0.toNatClampNeg) - 1)), b.2.2.2.1, b.2.2.2.2) T) := hD
        refine lv_aload_n hx hb dX0_runsOutToday_57 rfl (lv_at hl 0 rfl) ?_
        refine z_get C f_X0_18 hP (q0 := 0) rfl rfl dX0_runsOutToday_58 ?_
        refine lv_iload_n hx hb dX0_runsOutToday_61 rfl (lv_at hl 1 rfl) ?_
        refine lv_aload_n hx hb dX0_runsOutToday_62 rfl (lv_at hl 0 rfl) ?_
        refine z_get C f_X0_24 hP (q0 := 0) rfl rfl dX0_runsOutToday_63 ?_
        refine z_get C f_X0_86 hP (q0 := 5) rfl rfl dX0_runsOutToday_66 ?_
        refine lv_iload_n hx hb dX0_runsOutToday_69 rfl (lv_at hl 1 rfl) ?_
        obtain ⟨g9, h⟩ := h
        refine va_iald hx hb hK hP 10 0 rfl rfl g9 dX0_runsOutToday_70 ?_
        obtain ⟨g9, h⟩ := h
        refine va_iast hx hb hK hP hD hS 3 0 rfl rfl g9 dX0_runsOutToday_71 (fun H locs hP hD hS => ?_)
        have hP : va_P D vwCl (wB cI bA tA (b.1, (upd b.2.1 p0.toNatClampNeg 2), (upd (upd b.2.2.1 p0.toNatClampNeg ((b.2.2.1 p0.toNatClampNeg) - 1)) p0.toNatClampNeg (T.2.2.2.2.1 p0.toNatClampNeg)), b.2.2.2.1, b.2.2.2.2) T) H := hP
        have hD : va_D A (wB cI bA tA (b.1, (upd b.2.1 p0.toNatClampNeg 2), (upd (upd b.2.2.1 p0.toNatClampNeg ((b.2.2.1 p0.toNatClampNeg) - 1)) p0.toNatClampNeg (T.2.2.2.2.1 p0.toNatClampNeg)), b.2.2.2.1, b.2.2.2.2) T) := hD
        refine W.widen (k := 0) (n := 0) (Nat.le_of_ble_eq_true rfl) (Nat.le_of_ble_eq_true rfl) ?_
        exact k72 (b.1, (upd b.2.1 p0.toNatClampNeg 2), (upd (upd b.2.2.1 p0.toNatClampNeg ((b.2.2.1 p0.toNatClampNeg) - 1)) p0.toNatClampNeg (T.2.2.2.2.1 p0.toNatClampNeg)), b.2.2.2.1, b.2.2.2.2)  _ _ hP hD hS _ (lv_sub hl [0, 1] rfl) h
  · have h := h.2 c6
    refine lv_aload_n hx hb dX0_runsOutToday_9 rfl (lv_at hl 0 rfl) ?_
    refine z_get C f_X0_21 hP (q0 := 0) rfl rfl dX0_runsOutToday_10 ?_
    refine lv_iload_n hx hb dX0_runsOutToday_13 rfl (lv_at hl 1 rfl) ?_
    refine lv_dup2_11 hx hb dX0_runsOutToday_14 rfl rfl ?_
    obtain ⟨g9, h⟩ := h
    refine va_iald hx hb hK hP 4 0 rfl rfl g9 dX0_runsOutToday_15 ?_
    refine lv_iconst (v := 1) hx hb dX0_runsOutToday_16 (by decide) ?_
    refine lv_isub hx hb dX0_runsOutToday_17 ?_
    obtain ⟨g9, h⟩ := h
    refine va_iast hx hb hK hP hD hS 4 0 rfl rfl g9 dX0_runsOutToday_18 (fun H locs hP hD hS => ?_)
    have hP : va_P D vwCl (wB cI bA tA (b.1, b.2.1, b.2.2.1, (upd b.2.2.2.1 p0.toNatClampNeg ((b.2.2.2.1 p0.toNatClampNeg) - 1)), b.2.2.2.2) T) H := hP
    have hD : va_D A (wB cI bA tA (b.1, b.2.1, b.2.2.1, (upd b.2.2.2.1 p0.toNatClampNeg ((b.2.2.2.1 p0.toNatClampNeg) - 1)), b.2.2.2.2) T) := hD
    refine lv_iconst (v := 0) hx hb dX0_runsOutToday_19 (by decide) ?_
    exact zW_zret C rfl (0, (b.1, b.2.1, b.2.2.1, (upd b.2.2.2.1 p0.toNatClampNeg ((b.2.2.2.1 p0.toNatClampNeg) - 1)), b.2.2.2.2)) rfl h hP hD hS (Nat.le_of_ble_eq_true rfl) (Nat.le_of_ble_eq_true rfl) dX0_runsOutToday_20
def wpX0_live_b51 (post : Int32 → BS → Prop) (T : TS) (p0 : Int32) (K4 : Int32 → Int32 → BS → Prop) (K12 : Int32 → Int32 → Int32 → BS → Prop) (x2 : Int32) (x3 : Int32) (x4 : Int32) (b_ : BS) : Prop := K12 x2 x3 (x4 + 1) b_
def wpX0_live_b12 (post : Int32 → BS → Prop) (T : TS) (p0 : Int32) (K4 : Int32 → Int32 → BS → Prop) : Nat → Int32 → Int32 → Int32 → BS → Prop
  | 0, _, _, _, _ => False
  | n + 1, x2, x3, x4, b_ => (T.2.2.2.2.2.2.2.2.2.2 ≤ x4 → K4 x2 (x3 + 1) b_) ∧ (¬ T.2.2.2.2.2.2.2.2.2.2 ≤ x4 → wpX0_isOpen (fun r27 => (r27 = 0 → wpX0_live_b51 post T p0 (fun z0 z1 z2 => K4 z0 z1 z2) (fun z0 z1 z2 z3 => wpX0_live_b12 post T p0 K4 n z0 z1 z2 z3) x2 x3 x4 b_) ∧ (¬ r27 = 0 → wpX0_runsOutToday (fun r36 b36 => (r36 = 0 → wpX0_live_b51 post T p0 (fun z0 z1 z2 => K4 z0 z1 z2) (fun z0 z1 z2 z3 => wpX0_live_b12 post T p0 K4 n z0 z1 z2 z3) x2 x3 x4 b36) ∧ (¬ r36 = 0 → wpX0_fail (fun b45 => wpX0_live_b51 post T p0 (fun z0 z1 z2 => K4 z0 z1 z2) (fun z0 z1 z2 z3 => wpX0_live_b12 post T p0 K4 n z0 z1 z2 z3) (x2 + 1) x3 x4 b45) T b36 x4)) T b_ x4)) T b_ x4)
def wpX0_live_b4 (post : Int32 → BS → Prop) (T : TS) (p0 : Int32) : Nat → Int32 → Int32 → BS → Prop
  | 0, _, _, _ => False
  | n + 1, x2, x3, b_ => (p0 ≤ x3 → post x2 b_) ∧ (¬ p0 ≤ x3 → ∃ n12 : Nat, wpX0_live_b12 post T p0 (fun z0 z1 z2 => wpX0_live_b4 post T p0 n z0 z1 z2) n12 x2 x3 0 b_)
def wpX0_live (post : Int32 → BS → Prop) (T : TS) (b : BS) (p0 : Int32) : Prop := ∃ n4 : Nat, wpX0_live_b4 post T p0 n4 0 0 b
set_option maxHeartbeats 4000000 in
set_option maxRecDepth 100000 in
theorem c_X0_live {l : Launch} (hfl : l.stackTraces = false) {s0 : State} (hs0 : zS s0) (D : va_G) (cI cB cJ : ClassId) (bA : Nat → Nat) (tA : Nat → Nat) (T : TS) (b : BS) (p0 : Int32) {post : Int32 → BS → Prop} (h : wpX0_live post T b p0) : zW s0 l D (zty cI cB cJ) yX0_live cX0_live 5 (some .int) 4 0 0 [.ref (bA 0), .int p0] (wB cI bA tA b T) (fun u : Int32 × BS => some (Value.int u.1)) (fun u : Int32 × BS => post u.1 u.2) (fun u : Int32 × BS => wB cI bA tA u.2 T) := by
  refine zW_intro (by decide +kernel) (Nat.le_of_ble_eq_true rfl) ?_
  intro p e s m below meth c A C hnm hA hG hP hD hS ls hl
  have C : zC D (zty cI cB cJ) p s m ([.ref (bA 0), .int p0] : List Value).toArray meth c cX0_live RX0 (some .int) 5 := C
  have hx := C.1
  have hb := C.2.1
  have hts := C.2.2.1
  have hown := C.2.2.2.1
  have hml := C.2.2.2.2.2.1
  have hK := C.2.2.2.2.2.2.2
  have hl : lv_has ls 5 [(0, .ref (bA 0)), (1, .int p0)] := hl
  have hP : va_P D vwCl (wB cI bA tA b T) s.heap := hP
  have hD : va_D A (wB cI bA tA b T) := hD
  have k51 : ∀ (K4 : Int32 → Int32 → BS → Prop) (hK4 : ∀ (x2 : Int32) (x3 : Int32) (b_ : BS) (H : Heap) (locs : List Loc), va_P D vwCl (wB cI bA tA b_ T) H → va_D A (wB cI bA tA b_ T) → va_S A s.heap H locs → ∀ (ls : Array Slot), lv_has ls 5 [(0, .ref (bA 0)), (1, .int p0), (2, .int x2), (3, .int x3)] → K4 x2 x3 b_ → W p l e (zr 4 0 0) s m ([.ref (bA 0), .int p0] : List Value).toArray below meth c H locs 0 0 (MQ below (zQ D (fun u : Int32 × BS => some (Value.int u.1)) (fun u : Int32 × BS => post u.1 u.2) (fun u : Int32 × BS => wB cI bA tA u.2 T) A) ([.ref (bA 0), .int p0] : List Value).toArray s 0 0 A) (F0 m 4 ls [])) (K12 : Int32 → Int32 → Int32 → BS → Prop) (hK12 : ∀ (x2 : Int32) (x3 : Int32) (x4 : Int32) (b_ : BS) (H : Heap) (locs : List Loc), va_P D vwCl (wB cI bA tA b_ T) H → va_D A (wB cI bA tA b_ T) → va_S A s.heap H locs → ∀ (ls : Array Slot), lv_has ls 5 [(0, .ref (bA 0)), (1, .int p0), (2, .int x2), (3, .int x3), (4, .int x4)] → K12 x2 x3 x4 b_ → W p l e (zr 4 0 0) s m ([.ref (bA 0), .int p0] : List Value).toArray below meth c H locs 0 0 (MQ below (zQ D (fun u : Int32 × BS => some (Value.int u.1)) (fun u : Int32 × BS => post u.1 u.2) (fun u : Int32 × BS => wB cI bA tA u.2 T) A) ([.ref (bA 0), .int p0] : List Value).toArray s 0 0 A) (F0 m 12 ls [])), ∀ (x2 : Int32) (x3 : Int32) (x4 : Int32) (b_ : BS) (H : Heap) (locs : List Loc), va_P D vwCl (wB cI bA tA b_ T) H → va_D A (wB cI bA tA b_ T) → va_S A s.heap H locs → ∀ (ls : Array Slot), lv_has ls 5 [(0, .ref (bA 0)), (1, .int p0), (2, .int x2), (3, .int x3), (4, .int x4)] → wpX0_live_b51 post T p0 K4 K12 x2 x3 x4 b_ → W p l e (zr 4 0 0) s m ([.ref (bA 0), .int p0] : List Value).toArray below meth c H locs 0 0 (MQ below (zQ D (fun u : Int32 × BS => some (Value.int u.1)) (fun u : Int32 × BS => post u.1 u.2) (fun u : Int32 × BS => wB cI bA tA u.2 T) A) ([.ref (bA 0), .int p0] : List Value).toArray s 0 0 A) (F0 m 51 ls []) := by
    intro K4 hK4 K12 hK12
    intro x2 x3 x4 b_ H locs hP hD hS ls hl h
    unfold wpX0_live_b51 at h
    refine lv_iinc (v := (x4 + 1)) (lv' := [(4, .int (x4 + 1)), (0, .ref (bA 0)), (1, .int p0), (2, .int x2), (3, .int x3)]) hx hb dX0_live_51 hl (k := 4) rfl (by first | rfl | decide) (by decide) rfl (fun ls hl => ?_)
    refine lv_goto (tgt := 12) hx hb dX0_live_54 (by decide) ?_
    refine W.widen (k := 0) (n := 0) (Nat.le_of_ble_eq_true rfl) (Nat.le_of_ble_eq_true rfl) ?_
    exact hK12 x2 x3 (x4 + 1) b_  _ _ hP hD hS _ (lv_sub hl [1, 2, 3, 4, 0] rfl) h
  have k12 : ∀ (K4 : Int32 → Int32 → BS → Prop) (hK4 : ∀ (x2 : Int32) (x3 : Int32) (b_ : BS) (H : Heap) (locs : List Loc), va_P D vwCl (wB cI bA tA b_ T) H → va_D A (wB cI bA tA b_ T) → va_S A s.heap H locs → ∀ (ls : Array Slot), lv_has ls 5 [(0, .ref (bA 0)), (1, .int p0), (2, .int x2), (3, .int x3)] → K4 x2 x3 b_ → W p l e (zr 4 0 0) s m ([.ref (bA 0), .int p0] : List Value).toArray below meth c H locs 0 0 (MQ below (zQ D (fun u : Int32 × BS => some (Value.int u.1)) (fun u : Int32 × BS => post u.1 u.2) (fun u : Int32 × BS => wB cI bA tA u.2 T) A) ([.ref (bA 0), .int p0] : List Value).toArray s 0 0 A) (F0 m 4 ls [])), ∀ (n : Nat) (x2 : Int32) (x3 : Int32) (x4 : Int32) (b_ : BS) (H : Heap) (locs : List Loc), va_P D vwCl (wB cI bA tA b_ T) H → va_D A (wB cI bA tA b_ T) → va_S A s.heap H locs → ∀ (ls : Array Slot), lv_has ls 5 [(0, .ref (bA 0)), (1, .int p0), (2, .int x2), (3, .int x3), (4, .int x4)] → wpX0_live_b12 post T p0 K4 n x2 x3 x4 b_ → W p l e (zr 4 0 0) s m ([.ref (bA 0), .int p0] : List Value).toArray below meth c H locs 0 0 (MQ below (zQ D (fun u : Int32 × BS => some (Value.int u.1)) (fun u : Int32 × BS => post u.1 u.2) (fun u : Int32 × BS => wB cI bA tA u.2 T) A) ([.ref (bA 0), .int p0] : List Value).toArray s 0 0 A) (F0 m 12 ls []) := by
    intro K4 hK4
    intro n
    induction n with
    | zero =>
      intro x2 x3 x4 b_ H locs hP hD hS ls hl h
      exact h.elim
    | succ n ih =>
      intro x2 x3 x4 b_ H locs hP hD hS ls hl h
      rw [wpX0_live_b12] at h
      refine lv_iload hx hb dX0_live_12 (lv_at hl 4 rfl) ?_
      refine lv_aload_n hx hb dX0_live_14 rfl (lv_at hl 0 rfl) ?_
      refine z_get C f_X0_24 hP (q0 := 0) rfl rfl dX0_live_15 ?_
      refine z_get C f_X0_74 hP (q0 := 5) rfl rfl dX0_live_18 ?_
      refine lv_icmp_ge (tgt := 57) hx hb dX0_live_21 (by decide) (fun c21 => ?_) (fun c21 => ?_)
      · have h := h.1 c21
        refine lv_iinc (v := (x3 + 1)) (lv' := [(3, .int (x3 + 1)), (0, .ref (bA 0)), (1, .int p0), (2, .int x2), (4, .int x4)]) hx hb dX0_live_57 hl (k := 3) rfl (by first | rfl | decide) (by decide) rfl (fun ls hl => ?_)
        refine lv_goto (tgt := 4) hx hb dX0_live_60 (by decide) ?_
        refine W.widen (k := 0) (n := 0) (Nat.le_of_ble_eq_true rfl) (Nat.le_of_ble_eq_true rfl) ?_
        exact hK4 x2 (x3 + 1) b_  _ _ hP hD hS _ (lv_sub hl [1, 2, 3, 0] rfl) h
      · have h := h.2 c21
        refine lv_aload_n hx hb dX0_live_24 rfl (lv_at hl 0 rfl) ?_
        refine lv_iload hx hb dX0_live_25 (lv_at hl 4 rfl) ?_
        refine z_RV (As := [.int x4]) (rest := []) [0, 1, 2, 3, 4, 5, 6, 7, 8, 9, 10, 11, 12, 13, 14, 15] C (hG.kept hS.1 hS.2.1).none hP (c_X0_isOpen hfl hs0 D cI cB cJ bA tA T b_ x4 h) q8 v_X0_isOpen rfl rfl rfl rfl ⟨(Nat.le_of_ble_eq_true rfl), (Nat.le_of_ble_eq_true rfl)⟩ ⟨(Nat.le_of_ble_eq_true rfl), (Nat.le_of_ble_eq_true rfl)⟩ hl.1 rfl (lv_room (Nat.le_of_ble_eq_true rfl)) dX0_live_27 (fun r27 h => ?_)
        refine lv_if_eq (tgt := 51) hx hb dX0_live_30 (by decide) (fun c30 => ?_) (fun c30 => ?_)
        · have h := h.1 c30
          refine W.widen (k := 0) (n := 0) (Nat.le_of_ble_eq_true rfl) (Nat.le_of_ble_eq_true rfl) ?_
          exact k51 _ hK4 _ ih x2 x3 x4 b_  _ _ hP hD hS _ (lv_sub hl [0, 1, 2, 3, 4] rfl) h
        · have h := h.2 c30
          refine lv_aload_n hx hb dX0_live_33 rfl (lv_at hl 0 rfl) ?_
          refine lv_iload hx hb dX0_live_34 (lv_at hl 4 rfl) ?_
          refine z_WV (As := [.int x4]) (rest := []) (wr := ([] : va_W)) (wN := (fun u : Int32 × BS => wB cI bA tA u.2 T)) [0, 1, 2, 3, 4, 5, 6, 7, 8, 9, 10, 11, 12, 13, 14, 15] [] [0, 1, 2, 3, 4, 5, 6, 7, 8, 9, 10, 11, 12, 13, 14, 15] C hG hA hP hD hS (c_X0_runsOutToday hfl hs0 D cI cB cJ bA tA T b_ x4 h) q50 v_X0_runsOutToday rfl rfl ⟨by decide, by decide, by decide⟩ (by decide) (fun _ => rfl) rfl rfl rfl ⟨(Nat.le_of_ble_eq_true rfl), (Nat.le_of_ble_eq_true rfl)⟩ ⟨(Nat.le_of_ble_eq_true rfl), (Nat.le_of_ble_eq_true rfl)⟩ hl.1 rfl (lv_room (Nat.le_of_ble_eq_true rfl)) dX0_live_36 (fun u H locs h hP hD hS => ?_)
          obtain ⟨r36, b36⟩ := u
          have hP : va_P D vwCl (wB cI bA tA b36 T) H := hP
          have hD : va_D A (wB cI bA tA b36 T) := hD
          refine lv_if_eq (tgt := 51) hx hb dX0_live_39 (by decide) (fun c39 => ?_) (fun c39 => ?_)
          · have h := h.1 c39
            refine W.widen (k := 0) (n := 0) (Nat.le_of_ble_eq_true rfl) (Nat.le_of_ble_eq_true rfl) ?_
            exact k51 _ hK4 _ ih x2 x3 x4 b36  _ _ hP hD hS _ (lv_sub hl [0, 1, 2, 3, 4] rfl) h
          · have h := h.2 c39
            refine lv_aload_n hx hb dX0_live_42 rfl (lv_at hl 0 rfl) ?_
            refine lv_iload hx hb dX0_live_43 (lv_at hl 4 rfl) ?_
            refine z_WV (As := [.int x4]) (rest := []) (wr := ([] : va_W)) (wN := (fun u : BS => wB cI bA tA u T)) [0, 1, 2, 3, 4, 5, 6, 7, 8, 9, 10, 11, 12, 13, 14, 15] [] [0, 1, 2, 3, 4, 5, 6, 7, 8, 9, 10, 11, 12, 13, 14, 15] C hG hA hP hD hS (c_X0_fail hfl hs0 D cI cB cJ bA tA T b36 x4 h) q54 v_X0_fail rfl rfl ⟨by decide, by decide, by decide⟩ (by decide) (fun _ => rfl) rfl rfl rfl ⟨(Nat.le_of_ble_eq_true rfl), (Nat.le_of_ble_eq_true rfl)⟩ ⟨(Nat.le_of_ble_eq_true rfl), (Nat.le_of_ble_eq_true rfl)⟩ hl.1 rfl (lv_room (Nat.le_of_ble_eq_true rfl)) dX0_live_45 (fun u H locs h hP hD hS => ?_)
            obtain ⟨b45, rfl⟩ : ∃ z, z = u := ⟨_, rfl⟩
            have hP : va_P D vwCl (wB cI bA tA b45 T) H := hP
            have hD : va_D A (wB cI bA tA b45 T) := hD
            refine lv_iinc (v := (x2 + 1)) (lv' := [(2, .int (x2 + 1)), (0, .ref (bA 0)), (1, .int p0), (3, .int x3), (4, .int x4)]) hx hb dX0_live_48 hl (k := 2) rfl (by first | rfl | decide) (by decide) rfl (fun ls hl => ?_)
            refine W.widen (k := 0) (n := 0) (Nat.le_of_ble_eq_true rfl) (Nat.le_of_ble_eq_true rfl) ?_
            exact k51 _ hK4 _ ih (x2 + 1) x3 x4 b45  _ _ hP hD hS _ (lv_sub hl [1, 2, 0, 3, 4] rfl) h
  have k4 : ∀ (n : Nat) (x2 : Int32) (x3 : Int32) (b_ : BS) (H : Heap) (locs : List Loc), va_P D vwCl (wB cI bA tA b_ T) H → va_D A (wB cI bA tA b_ T) → va_S A s.heap H locs → ∀ (ls : Array Slot), lv_has ls 5 [(0, .ref (bA 0)), (1, .int p0), (2, .int x2), (3, .int x3)] → wpX0_live_b4 post T p0 n x2 x3 b_ → W p l e (zr 4 0 0) s m ([.ref (bA 0), .int p0] : List Value).toArray below meth c H locs 0 0 (MQ below (zQ D (fun u : Int32 × BS => some (Value.int u.1)) (fun u : Int32 × BS => post u.1 u.2) (fun u : Int32 × BS => wB cI bA tA u.2 T) A) ([.ref (bA 0), .int p0] : List Value).toArray s 0 0 A) (F0 m 4 ls []) := by
    intro n
    induction n with
    | zero =>
      intro x2 x3 b_ H locs hP hD hS ls hl h
      exact h.elim
    | succ n ih =>
      intro x2 x3 b_ H locs hP hD hS ls hl h
      rw [wpX0_live_b4] at h
      refine lv_iload_n hx hb dX0_live_4 rfl (lv_at hl 3 rfl) ?_
      refine lv_iload_n hx hb dX0_live_5 rfl (lv_at hl 1 rfl) ?_
      refine lv_icmp_ge (tgt := 63) hx hb dX0_live_6 (by decide) (fun c6 => ?_) (fun c6 => ?_)
      · have h := h.1 c6
        refine lv_iload_n hx hb dX0_live_63 rfl (lv_at hl 2 rfl) ?_
        exact zW_iret C (x2, b_) rfl h hP hD hS (Nat.le_of_ble_eq_true rfl) (Nat.le_of_ble_eq_true rfl) dX0_live_64
      · have h := h.2 c6
        refine lv_iconst (v := 0) hx hb dX0_live_9 (by decide) ?_
        refine lv_istore (lv' := [(4, .int 0), (0, .ref (bA 0)), (1, .int p0), (2, .int x2), (3, .int x3)]) hx hb dX0_live_10 hl (by decide) rfl (fun ls hl => ?_)
        refine W.widen (k := 0) (n := 0) (Nat.le_of_ble_eq_true rfl) (Nat.le_of_ble_eq_true rfl) ?_
        obtain ⟨n9, h⟩ := h
        exact k12 _ ih n9 x2 x3 0 b_  _ _ hP hD hS _ (lv_sub hl [1, 2, 3, 4, 0] rfl) h
  unfold wpX0_live at h
  refine lv_iconst (v := 0) hx hb dX0_live_0 (by decide) ?_
  refine lv_istore_n (lv' := [(2, .int 0), (0, .ref (bA 0)), (1, .int p0)]) hx hb dX0_live_1 rfl hl (by decide) rfl (fun ls hl => ?_)
  refine lv_iconst (v := 0) hx hb dX0_live_2 (by decide) ?_
  refine lv_istore_n (lv' := [(3, .int 0), (2, .int 0), (0, .ref (bA 0)), (1, .int p0)]) hx hb dX0_live_3 rfl hl (by decide) rfl (fun ls hl => ?_)
  refine W.widen (k := 0) (n := 0) (Nat.le_of_ble_eq_true rfl) (Nat.le_of_ble_eq_true rfl) ?_
  obtain ⟨n9, h⟩ := h
  exact k4 n9 0 0 b  _ _ hP hD hS _ (lv_sub hl [2, 3, 1, 0] rfl) h
def wpX0_copyFrom (post : BS → Prop) (o : BS) (b : BS) : Prop := post (o.1, o.2.1, o.2.2.1, o.2.2.2.1, o.2.2.2.2)
set_option maxHeartbeats 4000000 in
set_option maxRecDepth 100000 in
theorem c_X0_copyFrom {l : Launch} (hfl : l.stackTraces = false) {s0 : State} (hs0 : zS s0) (D : va_G) (cI cB cJ : ClassId) (bA : Nat → Nat) (oA : Nat → Nat) (tA : Nat → Nat) (o : BS) (b : BS) {post : BS → Prop} (h : wpX0_copyFrom post o b) : zW s0 l D (zty cI cB cJ) yX0_copyFrom cX0_copyFrom 2 none 3 0 0 [.ref (bA 0), .ref (oA 0)] (wBB cI bA oA tA b o) (fun _ : BS => none) (fun u : BS => post u) (fun u : BS => wBB cI bA oA tA u o) := by
  refine zW_intro (by decide +kernel) (Nat.le_of_ble_eq_true rfl) ?_
  intro p e s m below meth c A C hnm hA hG hP hD hS ls hl
  have C : zC D (zty cI cB cJ) p s m ([.ref (bA 0), .ref (oA 0)] : List Value).toArray meth c cX0_copyFrom RX0 none 2 := C
  have hx := C.1
  have hb := C.2.1
  have hts := C.2.2.1
  have hown := C.2.2.2.1
  have hml := C.2.2.2.2.2.1
  have hK := C.2.2.2.2.2.2.2
  have hl : lv_has ls 2 [(0, .ref (bA 0)), (1, .ref (oA 0))] := hl
  have hP : va_P D vwCl (wBB cI bA oA tA b o) s.heap := hP
  have hD : va_D A (wBB cI bA oA tA b o) := hD
  unfold wpX0_copyFrom at h
  refine lv_aload_n hx hb dX0_copyFrom_0 rfl (lv_at hl 1 rfl) ?_
  refine z_get C f_X0_9 hP (q0 := 5) rfl rfl dX0_copyFrom_1 ?_
  refine lv_iconst (v := 0) hx hb dX0_copyFrom_4 (by decide) ?_
  refine lv_aload_n hx hb dX0_copyFrom_5 rfl (lv_at hl 0 rfl) ?_
  refine z_get C f_X0_9 hP (q0 := 0) rfl rfl dX0_copyFrom_6 ?_
  refine lv_iconst (v := 0) hx hb dX0_copyFrom_9 (by decide) ?_
  refine lv_bipush (v := 6) hx hb dX0_copyFrom_10 (by decide) ?_
  refine z_copy C q55 q56 q57 q58 hP hD hS 6 1 rfl rfl hl.1 (by decide) (by decide) (Nat.le_of_ble_eq_true rfl) (Nat.le_of_ble_eq_true rfl) dX0_copyFrom_12 (fun H locs hP hD hS => ?_)
  have hP : va_P D vwCl (wBB cI bA oA tA (o.1, b.2.1, b.2.2.1, b.2.2.2.1, b.2.2.2.2) o) H := hP
  have hD : va_D A (wBB cI bA oA tA (o.1, b.2.1, b.2.2.1, b.2.2.2.1, b.2.2.2.2) o) := hD
  refine lv_aload_n hx hb dX0_copyFrom_15 rfl (lv_at hl 1 rfl) ?_
  refine z_get C f_X0_15 hP (q0 := 5) rfl rfl dX0_copyFrom_16 ?_
  refine lv_iconst (v := 0) hx hb dX0_copyFrom_19 (by decide) ?_
  refine lv_aload_n hx hb dX0_copyFrom_20 rfl (lv_at hl 0 rfl) ?_
  refine z_get C f_X0_15 hP (q0 := 0) rfl rfl dX0_copyFrom_21 ?_
  refine lv_iconst (v := 0) hx hb dX0_copyFrom_24 (by decide) ?_
  refine lv_bipush (v := 20) hx hb dX0_copyFrom_25 (by decide) ?_
  refine z_copy C q55 q56 q57 q58 hP hD hS 7 2 rfl rfl hl.1 (by decide) (by decide) (Nat.le_of_ble_eq_true rfl) (Nat.le_of_ble_eq_true rfl) dX0_copyFrom_27 (fun H locs hP hD hS => ?_)
  have hP : va_P D vwCl (wBB cI bA oA tA (o.1, o.2.1, b.2.2.1, b.2.2.2.1, b.2.2.2.2) o) H := hP
  have hD : va_D A (wBB cI bA oA tA (o.1, o.2.1, b.2.2.1, b.2.2.2.1, b.2.2.2.2) o) := hD
  refine lv_aload_n hx hb dX0_copyFrom_30 rfl (lv_at hl 1 rfl) ?_
  refine z_get C f_X0_18 hP (q0 := 5) rfl rfl dX0_copyFrom_31 ?_
  refine lv_iconst (v := 0) hx hb dX0_copyFrom_34 (by decide) ?_
  refine lv_aload_n hx hb dX0_copyFrom_35 rfl (lv_at hl 0 rfl) ?_
  refine z_get C f_X0_18 hP (q0 := 0) rfl rfl dX0_copyFrom_36 ?_
  refine lv_iconst (v := 0) hx hb dX0_copyFrom_39 (by decide) ?_
  refine lv_bipush (v := 20) hx hb dX0_copyFrom_40 (by decide) ?_
  refine z_copy C q55 q56 q57 q58 hP hD hS 8 3 rfl rfl hl.1 (by decide) (by decide) (Nat.le_of_ble_eq_true rfl) (Nat.le_of_ble_eq_true rfl) dX0_copyFrom_42 (fun H locs hP hD hS => ?_)
  have hP : va_P D vwCl (wBB cI bA oA tA (o.1, o.2.1, o.2.2.1, b.2.2.2.1, b.2.2.2.2) o) H := hP
  have hD : va_D A (wBB cI bA oA tA (o.1, o.2.1, o.2.2.1, b.2.2.2.1, b.2.2.2.2) o) := hD
  refine lv_aload_n hx hb dX0_copyFrom_45 rfl (lv_at hl 1 rfl) ?_
  refine z_get C f_X0_21 hP (q0 := 5) rfl rfl dX0_copyFrom_46 ?_
  refine lv_iconst (v := 0) hx hb dX0_copyFrom_49 (by decide) ?_
  refine lv_aload_n hx hb dX0_copyFrom_50 rfl (lv_at hl 0 rfl) ?_
  refine z_get C f_X0_21 hP (q0 := 0) rfl rfl dX0_copyFrom_51 ?_
  refine lv_iconst (v := 0) hx hb dX0_copyFrom_54 (by decide) ?_
  refine lv_bipush (v := 20) hx hb dX0_copyFrom_55 (by decide) ?_
  refine z_copy C q55 q56 q57 q58 hP hD hS 9 4 rfl rfl hl.1 (by decide) (by decide) (Nat.le_of_ble_eq_true rfl) (Nat.le_of_ble_eq_true rfl) dX0_copyFrom_57 (fun H locs hP hD hS => ?_)
  have hP : va_P D vwCl (wBB cI bA oA tA (o.1, o.2.1, o.2.2.1, o.2.2.2.1, b.2.2.2.2) o) H := hP
  have hD : va_D A (wBB cI bA oA tA (o.1, o.2.1, o.2.2.1, o.2.2.2.1, b.2.2.2.2) o) := hD
  refine lv_aload_n hx hb dX0_copyFrom_60 rfl (lv_at hl 0 rfl) ?_
  refine lv_aload_n hx hb dX0_copyFrom_61 rfl (lv_at hl 1 rfl) ?_
  refine z_get C f_X0_34 hP (q0 := 5) rfl rfl dX0_copyFrom_62 ?_
  refine z_put C f_X0_34 zt_X0 rfl rfl rfl rfl hP hD hS (q0 := 0) rfl (Nat.le_of_ble_eq_true rfl) dX0_copyFrom_65 (fun H locs hP hD hS => ?_)
  have hP : va_P D vwCl (wBB cI bA oA tA (o.1, o.2.1, o.2.2.1, o.2.2.2.1, o.2.2.2.2) o) H := hP
  have hD : va_D A (wBB cI bA oA tA (o.1, o.2.1, o.2.2.1, o.2.2.2.1, o.2.2.2.2) o) := hD
  exact zW_vret C (o.1, o.2.1, o.2.2.1, o.2.2.2.1, o.2.2.2.2) rfl h hP hD hS (Nat.le_of_ble_eq_true rfl) (Nat.le_of_ble_eq_true rfl) dX0_copyFrom_68
def wpX1_hangsSomehowOn_b10 (post : Int32 → Prop) (T : TS) (p0 : Int32) (p1 : Int32) : Nat → Int32 → Int32 → Prop
  | 0, _, _ => False
  | n + 1, x3, x4 => (x4 ≤ 0 → post 0) ∧ (¬ x4 ≤ 0 → vp_in x3 20 ∧ (((T.2.2.2.2.2.2.1 x3.toNatClampNeg) = p1 → post 1) ∧ (¬ (T.2.2.2.2.2.2.1 x3.toNatClampNeg) = p1 → wpX1_hangsSomehowOn_b10 post T p0 p1 n (T.2.2.2.2.2.2.1 x3.toNatClampNeg) (x4 + (-1)))))
def wpX1_hangsSomehowOn (post : Int32 → Prop) (T : TS) (p0 : Int32) (p1 : Int32) : Prop := vp_in p0 20 ∧ (∃ n10 : Nat, wpX1_hangsSomehowOn_b10 post T p0 p1 n10 p0 (T.2.2.2.2.2.2.2.1 p0.toNatClampNeg))
set_option maxHeartbeats 4000000 in
set_option maxRecDepth 100000 in
theorem c_X1_hangsSomehowOn {l : Launch} (hfl : l.stackTraces = false) {s0 : State} (hs0 : zS s0) (D : va_G) (cI cB cJ : ClassId) (tA : Nat → Nat) (T : TS) (p0 : Int32) (p1 : Int32) {post : Int32 → Prop} (h : wpX1_hangsSomehowOn post T p0 p1) : zR s0 l D (zty cI cB cJ) yX1_hangsSomehowOn cX1_hangsSomehowOn 5 (some .boolean) 1 [.ref (tA 0), .int p0, .int p1] (wT cI tA T) (fun u : Int32 => some (Value.int u)) (fun u : Int32 => post u) := by
  refine zR_intro (by decide +kernel) (Nat.le_of_ble_eq_true rfl) ?_
  intro p e s m below meth c C hP hG ls hl
  have C : zC D (zty cI cB cJ) p s m ([.ref (tA 0), .int p0, .int p1] : List Value).toArray meth c cX1_hangsSomehowOn RX1 (some .boolean) 5 := C
  have hx := C.1
  have hb := C.2.1
  have hts := C.2.2.1
  have hown := C.2.2.2.1
  have hml := C.2.2.2.2.2.1
  have hK := C.2.2.2.2.2.2.2
  have hl : lv_has ls 5 [(0, .ref (tA 0)), (1, .int p0), (2, .int p1)] := hl
  have k10 : ∀ (n : Nat) (x3 : Int32) (x4 : Int32) (ls : Array Slot), lv_has ls 5 [(0, .ref (tA 0)), (2, .int p1), (3, .int x3), (4, .int x4)] → wpX1_hangsSomehowOn_b10 post T p0 p1 n x3 x4 → W p l e (zr 1 0 0) s m ([.ref (tA 0), .int p0, .int p1] : List Value).toArray below meth c s.heap [] 0 0 (MQ below (zQr (fun u : Int32 => some (Value.int u)) (fun u : Int32 => post u)) ([.ref (tA 0), .int p0, .int p1] : List Value).toArray s 0 0 (fun _ => False)) (F0 m 10 ls []) := by
    intro n
    induction n with
    | zero =>
      intro x3 x4 ls hl h
      exact h.elim
    | succ n ih =>
      intro x3 x4 ls hl h
      rw [wpX1_hangsSomehowOn_b10] at h
      refine lv_iload hx hb dX1_hangsSomehowOn_10 (lv_at hl 3 rfl) ?_
      refine lv_if_le (tgt := 35) hx hb dX1_hangsSomehowOn_12 (by decide) (fun c12 => ?_) (fun c12 => ?_)
      · have h := h.1 c12
        refine lv_iconst (v := 0) hx hb dX1_hangsSomehowOn_35 (by decide) ?_
        exact zR_zret C rfl 0 rfl h dX1_hangsSomehowOn_36
      · have h := h.2 c12
        refine lv_aload_n hx hb dX1_hangsSomehowOn_15 rfl (lv_at hl 0 rfl) ?_
        refine z_get C f_X1_30 hP (q0 := 0) rfl rfl dX1_hangsSomehowOn_16 ?_
        refine lv_iload_n hx hb dX1_hangsSomehowOn_19 rfl (lv_at hl 2 rfl) ?_
        obtain ⟨g9, h⟩ := h
        refine va_iald hx hb hK hP 7 0 rfl rfl g9 dX1_hangsSomehowOn_20 ?_
        refine lv_istore_n (lv' := [(3, .int (T.2.2.2.2.2.2.1 x3.toNatClampNeg)), (0, .ref (tA 0)), (2, .int p1), (4, .int x4)]) hx hb dX1_hangsSomehowOn_21 rfl hl (by decide) rfl (fun ls hl => ?_)
        refine lv_iload_n hx hb dX1_hangsSomehowOn_22 rfl (lv_at hl 0 rfl) ?_
        refine lv_iload_n hx hb dX1_hangsSomehowOn_23 rfl (lv_at hl 2 rfl) ?_
        refine lv_icmp_ne (tgt := 29) hx hb dX1_hangsSomehowOn_24 (by decide) (fun c24 => ?_) (fun c24 => ?_)
        · have h := h.2 c24
          refine lv_iinc (v := (x4 + (-1))) (lv' := [(4, .int (x4 + (-1))), (3, .int (T.2.2.2.2.2.2.1 x3.toNatClampNeg)), (0, .ref (tA 0)), (2, .int p1)]) hx hb dX1_hangsSomehowOn_29 hl (k := 3) rfl (by first | rfl | decide) (by decide) rfl (fun ls hl => ?_)
          refine lv_goto (tgt := 10) hx hb dX1_hangsSomehowOn_32 (by decide) ?_
          exact ih (T.2.2.2.2.2.2.1 x3.toNatClampNeg) (x4 + (-1))  _ (lv_sub hl [2, 3, 1, 0] rfl) h
        · have h := h.1 c24
          refine lv_iconst (v := 1) hx hb dX1_hangsSomehowOn_27 (by decide) ?_
          exact zR_zret C rfl 1 rfl h dX1_hangsSomehowOn_28
  unfold wpX1_hangsSomehowOn at h
  refine lv_iload_n hx hb dX1_hangsSomehowOn_0 rfl (lv_at hl 1 rfl) ?_
  refine lv_istore_n (lv' := [(3, .int p0), (0, .ref (tA 0)), (1, .int p0), (2, .int p1)]) hx hb dX1_hangsSomehowOn_1 rfl hl (by decide) rfl (fun ls hl => ?_)
  refine lv_aload_n hx hb dX1_hangsSomehowOn_2 rfl (lv_at hl 1 rfl) ?_
  refine z_get C f_X1_33 hP (q0 := 0) rfl rfl dX1_hangsSomehowOn_3 ?_
  refine lv_iload_n hx hb dX1_hangsSomehowOn_6 rfl (lv_at hl 2 rfl) ?_
  obtain ⟨g9, h⟩ := h
  refine va_iald hx hb hK hP 8 0 rfl rfl g9 dX1_hangsSomehowOn_7 ?_
  refine lv_istore (lv' := [(4, .int (T.2.2.2.2.2.2.2.1 p0.toNatClampNeg)), (3, .int p0), (0, .ref (tA 0)), (1, .int p0), (2, .int p1)]) hx hb dX1_hangsSomehowOn_8 hl (by decide) rfl (fun ls hl => ?_)
  obtain ⟨n9, h⟩ := h
  exact k10 n9 p0 (T.2.2.2.2.2.2.2.1 p0.toNatClampNeg)  _ (lv_sub hl [2, 4, 1, 0] rfl) h

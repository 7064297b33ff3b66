/-! THE JDK: what StringBuilder is made of -/
theorem q345 : (Jvm.Cond.fieldLink "java/lang/AbstractStringBuilder" (18 : Nat) "java/lang/String" "COMPACT_STRINGS" "Z") ∈ lw_all := mt2 209 (by decide +kernel) (by decide +kernel)
theorem q346 : (Jvm.Cond.fieldLink "java/lang/AbstractStringBuilder" (22 : Nat) "java/lang/AbstractStringBuilder" "coder" "B") ∈ lw_all := mt2 219 (by decide +kernel) (by decide +kernel)
theorem q347 : (Jvm.Cond.constant "jdk/internal/util/ArraysSupport" (200 : Nat) (2147483639 : Int32)) ∈ lw_all := mt3 16 (by decide +kernel) (by decide +kernel)
theorem q348 : (Jvm.Cond.methodLink "jdk/internal/util/ArraysSupport" (194 : Nat) ({ cls := "java/lang/Math", name := "max", desc := "(II)I" } : Jvm.MethodName)) ∈ lw_all := mt3 13 (by decide +kernel) (by decide +kernel)
theorem q349 : (Jvm.Cond.static ({ cls := "java/lang/Math", name := "max", desc := "(II)I" } : Jvm.MethodName)) ∈ lw_all := mt3 14 (by decide +kernel) (by decide +kernel)
theorem q350 : (Jvm.Cond.code ({ cls := "java/lang/Math", name := "max", desc := "(II)I" } : Jvm.MethodName) prog_14_method_65_code (2 : Nat) (Option.some Jvm.ClassFile.FieldType.int)) ∈ lw_all := mt3 15 (by decide +kernel) (by decide +kernel)
theorem q351 : (Jvm.Cond.fieldLink "java/lang/AbstractStringBuilder" (15 : Nat) "java/lang/AbstractStringBuilder" "value" "[B") ∈ lw_all := mt2 218 (by decide +kernel) (by decide +kernel)
theorem q352 : (Jvm.Cond.methodLink "java/lang/AbstractStringBuilder" (114 : Nat) ({ cls := "jdk/internal/util/ArraysSupport", name := "newLength", desc := "(III)I" } : Jvm.MethodName)) ∈ lw_all := mt3 10 (by decide +kernel) (by decide +kernel)
theorem q353 : (Jvm.Cond.constant "java/lang/AbstractStringBuilder" (39 : Nat) (2147483647 : Int32)) ∈ lw_all := mt3 20 (by decide +kernel) (by decide +kernel)
theorem q354 : (Jvm.Cond.initialized "jdk/internal/util/ArraysSupport") ∈ lw_all := mt1 16 (by decide +kernel) (by decide +kernel)
theorem q355 : (Jvm.Cond.code ({ cls := "jdk/internal/util/ArraysSupport", name := "newLength", desc := "(III)I" } : Jvm.MethodName) prog_24_method_27_code (4 : Nat) (Option.some Jvm.ClassFile.FieldType.int)) ∈ lw_all := mt3 12 (by decide +kernel) (by decide +kernel)
theorem q356 : (Jvm.Cond.static ({ cls := "jdk/internal/util/ArraysSupport", name := "newLength", desc := "(III)I" } : Jvm.MethodName)) ∈ lw_all := mt3 11 (by decide +kernel) (by decide +kernel)
theorem f_J5_22 : zF RJ5 "java/lang/AbstractStringBuilder" 22 1 1 4 RJ4 TJ4 := ⟨in_J4, rfl, by decide, q346, rfl⟩
theorem f_J5_15 : zF RJ5 "java/lang/AbstractStringBuilder" 15 1 0 4 RJ4 TJ4 := ⟨in_J4, rfl, by decide, q351, rfl⟩
theorem v_J8_newLength_cabcc : zSt yJ8_newLength_cabcc cJ8_newLength_cabcc 4 (some .int) 3 := ⟨q356, q354, q355, by decide +kernel, by decide +kernel, by decide +kernel⟩
def wpJ5_isLatin1_aae02 (post : Int32 → Prop) (x : SS) : Prop := ((1 : Int32) = 0 → post 0) ∧ (¬ (1 : Int32) = 0 → ((0 : Int32) = 0 → post 1) ∧ (¬ (0 : Int32) = 0 → post 0))
set_option maxHeartbeats 4000000 in
set_option maxRecDepth 100000 in
theorem c_J5_isLatin1_aae02 {l : Launch} (hfl : l.stackTraces = false) {s0 : State} (hs0 : zS s0) (D : va_G) (cI cB cJ : ClassId) (sA : Nat → Nat) (x : SS) {post : Int32 → Prop} (h : wpJ5_isLatin1_aae02 post x) : zR s0 l D (zty cI cB cJ) yJ5_isLatin1_aae02 cJ5_isLatin1_aae02 1 (some .boolean) 1 [.ref (sA 0)] (wS cB sA x) (fun u : Int32 => some (Value.int u)) (fun u : Int32 => post u) := by
  refine zR_intro (by decide +kernel) (Nat.le_of_ble_eq_true rfl) ?_
  intro p e s m below meth c C hP hG ls hl
  have C : zC D (zty cI cB cJ) p s m ([.ref (sA 0)] : List Value).toArray meth c cJ5_isLatin1_aae02 RJ5 (some .boolean) 1 := C
  have hx := C.1
  have hb := C.2.1
  have hts := C.2.2.1
  have hown := C.2.2.2.1
  have hml := C.2.2.2.2.2.1
  have hK := C.2.2.2.2.2.2.2
  have hl : lv_has ls 1 [(0, .ref (sA 0))] := hl
  unfold wpJ5_isLatin1_aae02 at h
  refine va_gets hx hb (z_CS hs0 hG) va_S.rf hown (hts _ q345) (fun _ h => h) dJ5_isLatin1_aae02_0 ?_
  refine lv_if_eq (tgt := 17) hx hb dJ5_isLatin1_aae02_3 (by decide) (fun c3 => ?_) (fun c3 => ?_)
  · have h := h.1 c3
    refine lv_iconst (v := 0) hx hb dJ5_isLatin1_aae02_17 (by decide) ?_
    exact zR_zret C rfl 0 rfl h dJ5_isLatin1_aae02_18
  · have h := h.2 c3
    refine lv_aload_n hx hb dJ5_isLatin1_aae02_6 rfl (lv_at hl 0 rfl) ?_
    refine z_get C f_J5_22 hP (q0 := 0) rfl rfl dJ5_isLatin1_aae02_7 ?_
    refine lv_if_ne (tgt := 17) hx hb dJ5_isLatin1_aae02_10 (by decide) (fun c10 => ?_) (fun c10 => ?_)
    · have h := h.2 c10
      refine lv_iconst (v := 0) hx hb dJ5_isLatin1_aae02_17 (by decide) ?_
      exact zR_zret C rfl 0 rfl h dJ5_isLatin1_aae02_18
    · have h := h.1 c10
      refine lv_iconst (v := 1) hx hb dJ5_isLatin1_aae02_13 (by decide) ?_
      refine lv_goto (tgt := 18) hx hb dJ5_isLatin1_aae02_14 (by decide) ?_
      exact zR_zret C rfl 1 rfl h dJ5_isLatin1_aae02_18
def wpJ8_newLength_cabcc (post : Int32 → Prop) (p0 : Int32) (p1 : Int32) (p2 : Int32) : Prop := ((p0 + (if p1 < p2 then p2 else p1)) ≤ 0 → False) ∧ (¬ (p0 + (if p1 < p2 then p2 else p1)) ≤ 0 → (2147483639 < (p0 + (if p1 < p2 then p2 else p1)) → False) ∧ (¬ 2147483639 < (p0 + (if p1 < p2 then p2 else p1)) → post (p0 + (if p1 < p2 then p2 else p1))))
set_option maxHeartbeats 4000000 in
set_option maxRecDepth 100000 in
theorem c_J8_newLength_cabcc {l : Launch} (hfl : l.stackTraces = false) {s0 : State} (hs0 : zS s0) (D : va_G) (cI cB cJ : ClassId) (p0 : Int32) (p1 : Int32) (p2 : Int32) {post : Int32 → Prop} (h : wpJ8_newLength_cabcc post p0 p1 p2) : zR s0 l D (zty cI cB cJ) yJ8_newLength_cabcc cJ8_newLength_cabcc 4 (some .int) 2 [.int p0, .int p1, .int p2] ([]) (fun u : Int32 => some (Value.int u)) (fun u : Int32 => post u) := by
  refine zR_intro (by decide +kernel) (Nat.le_of_ble_eq_true rfl) ?_
  intro p e s m below meth c C hP hG ls hl
  have C : zC D (zty cI cB cJ) p s m ([.int p0, .int p1, .int p2] : List Value).toArray meth c cJ8_newLength_cabcc RJ8 (some .int) 4 := C
  have hx := C.1
  have hb := C.2.1
  have hts := C.2.2.1
  have hown := C.2.2.2.1
  have hml := C.2.2.2.2.2.1
  have hK := C.2.2.2.2.2.2.2
  have hl : lv_has ls 4 [(0, .int p0), (1, .int p1), (2, .int p2)] := hl
  unfold wpJ8_newLength_cabcc at h
  refine lv_iload_n hx hb dJ8_newLength_cabcc_0 rfl (lv_at hl 0 rfl) ?_
  refine lv_iload_n hx hb dJ8_newLength_cabcc_1 rfl (lv_at hl 1 rfl) ?_
  refine lv_iload_n hx hb dJ8_newLength_cabcc_2 rfl (lv_at hl 2 rfl) ?_
  refine va_mmax hx hb (hml.trans hl.1.symm) hown (hts _ q348) (hts _ q349) (hts _ q44) (hts _ q350) (Nat.le_of_ble_eq_true rfl) (Nat.le_of_ble_eq_true rfl) (Nat.le_of_ble_eq_true rfl) (Nat.le_of_ble_eq_true rfl) dJ8_newLength_cabcc_3 ?_
  refine lv_iadd hx hb dJ8_newLength_cabcc_6 ?_
  refine lv_istore_n (lv' := [(3, .int (p0 + (if p1 < p2 then p2 else p1))), (0, .int p0), (1, .int p1), (2, .int p2)]) hx hb dJ8_newLength_cabcc_7 rfl hl (by decide) rfl (fun ls hl => ?_)
  refine lv_iconst (v := 0) hx hb dJ8_newLength_cabcc_8 (by decide) ?_
  refine lv_iload_n hx hb dJ8_newLength_cabcc_9 rfl (lv_at hl 0 rfl) ?_
  refine lv_icmp_ge (tgt := 21) hx hb dJ8_newLength_cabcc_10 (by decide) (fun c10 => ?_) (fun c10 => ?_)
  · have h := h.1 c10
    exact (show False from h).elim
  · have h := h.2 c10
    refine lv_iload_n hx hb dJ8_newLength_cabcc_13 rfl (lv_at hl 0 rfl) ?_
    refine lv_ldc hx hb hown (hts _ q347) dJ8_newLength_cabcc_14 ?_
    refine lv_icmp_gt (tgt := 21) hx hb dJ8_newLength_cabcc_16 (by decide) (fun c16 => ?_) (fun c16 => ?_)
    · have h := h.1 c16
      exact (show False from h).elim
    · have h := h.2 c16
      refine lv_iload_n hx hb dJ8_newLength_cabcc_19 rfl (lv_at hl 0 rfl) ?_
      exact zR_iret C (p0 + (if p1 < p2 then p2 else p1)) rfl h dJ8_newLength_cabcc_20
def wpJ5_newCapacity_0f7a4 (post : Int32 → Prop) (x : SS) (p0 : Int32) : Prop := wpJ8_newLength_cabcc (fun r29 => (r29 = 2147483647 → False) ∧ (¬ r29 = 2147483647 → post (r29 >>> ((0 : Int32) &&& 31)))) (Int32.ofNat x.2.1.1) ((p0 <<< ((0 : Int32) &&& 31)) - (Int32.ofNat x.2.1.1)) ((Int32.ofNat x.2.1.1) + ((2 : Int32) <<< ((0 : Int32) &&& 31)))
set_option maxHeartbeats 4000000 in
set_option maxRecDepth 100000 in
theorem c_J5_newCapacity_0f7a4 {l : Launch} (hfl : l.stackTraces = false) {s0 : State} (hs0 : zS s0) (D : va_G) (cI cB cJ : ClassId) (sA : Nat → Nat) (x : SS) (p0 : Int32) {post : Int32 → Prop} (h : wpJ5_newCapacity_0f7a4 post x p0) : zR s0 l D (zty cI cB cJ) yJ5_newCapacity_0f7a4 cJ5_newCapacity_0f7a4 6 (some .int) 3 [.ref (sA 0), .int p0] (wS cB sA x) (fun u : Int32 => some (Value.int u)) (fun u : Int32 => post u) := by
  refine zR_intro (by decide +kernel) (Nat.le_of_ble_eq_true rfl) ?_
  intro p e s m below meth c C hP hG ls hl
  have C : zC D (zty cI cB cJ) p s m ([.ref (sA 0), .int p0] : List Value).toArray meth c cJ5_newCapacity_0f7a4 RJ5 (some .int) 6 := C
  have hx := C.1
  have hb := C.2.1
  have hts := C.2.2.1
  have hown := C.2.2.2.1
  have hml := C.2.2.2.2.2.1
  have hK := C.2.2.2.2.2.2.2
  have hl : lv_has ls 6 [(0, .ref (sA 0)), (1, .int p0)] := hl
  unfold wpJ5_newCapacity_0f7a4 at h
  refine lv_aload_n hx hb dJ5_newCapacity_0f7a4_0 rfl (lv_at hl 0 rfl) ?_
  refine z_get C f_J5_15 hP (q0 := 0) rfl rfl dJ5_newCapacity_0f7a4_1 ?_
  refine va_alen hx hb hK hP 1 1 rfl rfl rfl dJ5_newCapacity_0f7a4_4 ?_
  refine lv_istore_n (lv' := [(2, .int (Int32.ofNat x.2.1.1)), (0, .ref (sA 0)), (1, .int p0)]) hx hb dJ5_newCapacity_0f7a4_5 rfl hl (by decide) rfl (fun ls hl => ?_)
  refine lv_iload_n hx hb dJ5_newCapacity_0f7a4_6 rfl (lv_at hl 2 rfl) ?_
  refine lv_aload_n hx hb dJ5_newCapacity_0f7a4_7 rfl (lv_at hl 1 rfl) ?_
  refine z_get C f_J5_22 hP (q0 := 0) rfl rfl dJ5_newCapacity_0f7a4_8 ?_
  refine lv_ishl hx hb dJ5_newCapacity_0f7a4_11 ?_
  refine lv_istore_n (lv' := [(3, .int (p0 <<< ((0 : Int32) &&& 31))), (2, .int (Int32.ofNat x.2.1.1)), (0, .ref (sA 0)), (1, .int p0)]) hx hb dJ5_newCapacity_0f7a4_12 rfl hl (by decide) rfl (fun ls hl => ?_)
  refine lv_iload_n hx hb dJ5_newCapacity_0f7a4_13 rfl (lv_at hl 0 rfl) ?_
  refine lv_iload_n hx hb dJ5_newCapacity_0f7a4_14 rfl (lv_at hl 1 rfl) ?_
  refine lv_isub hx hb dJ5_newCapacity_0f7a4_15 ?_
  refine lv_istore (lv' := [(4, .int ((p0 <<< ((0 : Int32) &&& 31)) - (Int32.ofNat x.2.1.1))), (3, .int (p0 <<< ((0 : Int32) &&& 31))), (2, .int (Int32.ofNat x.2.1.1)), (0, .ref (sA 0)), (1, .int p0)]) hx hb dJ5_newCapacity_0f7a4_16 hl (by decide) rfl (fun ls hl => ?_)
  refine lv_iload_n hx hb dJ5_newCapacity_0f7a4_18 rfl (lv_at hl 2 rfl) ?_
  refine lv_iload hx hb dJ5_newCapacity_0f7a4_19 (lv_at hl 0 rfl) ?_
  refine lv_iload_n hx hb dJ5_newCapacity_0f7a4_21 rfl (lv_at hl 2 rfl) ?_
  refine lv_iconst (v := 2) hx hb dJ5_newCapacity_0f7a4_22 (by decide) ?_
  refine lv_aload_n hx hb dJ5_newCapacity_0f7a4_23 rfl (lv_at hl 3 rfl) ?_
  refine z_get C f_J5_22 hP (q0 := 0) rfl rfl dJ5_newCapacity_0f7a4_24 ?_
  refine lv_ishl hx hb dJ5_newCapacity_0f7a4_27 ?_
  refine lv_iadd hx hb dJ5_newCapacity_0f7a4_28 ?_
  refine z_RS (As := [.int (Int32.ofNat x.2.1.1), .int ((p0 <<< ((0 : Int32) &&& 31)) - (Int32.ofNat x.2.1.1)), .int ((Int32.ofNat x.2.1.1) + ((2 : Int32) <<< ((0 : Int32) &&& 31)))]) (rest := []) [] C hG hP (c_J8_newLength_cabcc hfl hs0 D cI cB cJ (Int32.ofNat x.2.1.1) ((p0 <<< ((0 : Int32) &&& 31)) - (Int32.ofNat x.2.1.1)) ((Int32.ofNat x.2.1.1) + ((2 : Int32) <<< ((0 : Int32) &&& 31))) h) q352 v_J8_newLength_cabcc rfl rfl ⟨(Nat.le_of_ble_eq_true rfl), (Nat.le_of_ble_eq_true rfl)⟩ ⟨(Nat.le_of_ble_eq_true rfl), (Nat.le_of_ble_eq_true rfl)⟩ hl.1 rfl (lv_room (Nat.le_of_ble_eq_true rfl)) dJ5_newCapacity_0f7a4_29 (fun r29 h => ?_)
  refine lv_istore (lv' := [(5, .int r29), (4, .int ((p0 <<< ((0 : Int32) &&& 31)) - (Int32.ofNat x.2.1.1))), (3, .int (p0 <<< ((0 : Int32) &&& 31))), (2, .int (Int32.ofNat x.2.1.1)), (0, .ref (sA 0)), (1, .int p0)]) hx hb dJ5_newCapacity_0f7a4_32 hl (by decide) rfl (fun ls hl => ?_)
  refine lv_iload hx hb dJ5_newCapacity_0f7a4_34 (lv_at hl 0 rfl) ?_
  refine lv_ldc hx hb hown (hts _ q353) dJ5_newCapacity_0f7a4_36 ?_
  refine lv_icmp_ne (tgt := 51) hx hb dJ5_newCapacity_0f7a4_38 (by decide) (fun c38 => ?_) (fun c38 => ?_)
  · have h := h.2 c38
    refine lv_iload hx hb dJ5_newCapacity_0f7a4_51 (lv_at hl 0 rfl) ?_
    refine lv_aload_n hx hb dJ5_newCapacity_0f7a4_53 rfl (lv_at hl 4 rfl) ?_
    refine z_get C f_J5_22 hP (q0 := 0) rfl rfl dJ5_newCapacity_0f7a4_54 ?_
    refine lv_ishr hx hb dJ5_newCapacity_0f7a4_57 ?_
    exact zR_iret C (r29 >>> ((0 : Int32) &&& 31)) rfl h dJ5_newCapacity_0f7a4_58
  · have h := h.1 c38
    exact (show False from h).elim
theorem q357 : (Jvm.Cond.arrayClass Jvm.ClassFile.FieldType.byte) ∈ lw_all := mt1 231 (by decide +kernel) (by decide +kernel)
theorem q358 : (Jvm.Cond.methodLink "java/util/Arrays" (304 : Nat) ({ cls := "java/lang/Math", name := "min", desc := "(II)I" } : Jvm.MethodName)) ∈ lw_all := mt3 31 (by decide +kernel) (by decide +kernel)
theorem q359 : (Jvm.Cond.methodLink "java/util/Arrays" (150 : Nat) ({ cls := "java/lang/System", name := "arraycopy", desc := "(Ljava/lang/Object;ILjava/lang/Object;II)V" } : Jvm.MethodName)) ∈ lw_all := mt3 32 (by decide +kernel) (by decide +kernel)
set_option maxHeartbeats 4000000 in
set_option maxRecDepth 100000 in
theorem c_J7_copyOf_9075b {l : Launch} (hfl : l.stackTraces = false) {s0 : State} (hs0 : zS s0) (D : va_G) (cI cB cJ : ClassId) (vA : Nat → Nat) (y : YS) (p0 : Int32) (h : ¬ p0 < 0 ∧ ¬ p0 = Int32.ofNat y.1 ∧ y.1 ≤ p0.toNatClampNeg ∧ p0.toNatClampNeg ≤ 34 ∧ ∀ i, i < y.1 → fits .byte (.int (y.2 i)) = true) :
    zW s0 l D (zty cI cB cJ) yJ7_copyOf_9075b cJ7_copyOf_9075b 3 (some (.array .byte)) 3 1 34 [.ref (vA 0), .int p0] (wY cB vA y) (fun u : Nat => some (.ref u)) (fun _ : Nat => True) (fun u : Nat => [((vA 0), .inl (cB, y.1, .inl y.2)), (u, .inl (cB, p0.toNatClampNeg, .inl (va_cpy y.2 (fun _ => 0) 0 0 y.1)))]) := by
  obtain ⟨h1, h2, h3, h4, h5⟩ := h
  have n1 : (Int32.ofNat y.1).toNatClampNeg = y.1 := nI_clamp (n := y.1) (by omega)
  have n2 : ¬ Int32.ofNat y.1 < 0 := nI_pos (by omega)
  have n3 : ¬ p0 < Int32.ofNat y.1 := by
    intro z
    rw [Int32.lt_iff_toInt_lt] at z
    have e1 : (Int32.ofNat y.1).toNatClampNeg = (Int32.ofNat y.1).toInt.toNat := rfl
    have e2 : p0.toNatClampNeg = p0.toInt.toNat := rfl
    have e3 : (Int32.ofNat y.1).toInt = (y.1 : Int) := Int32.toInt_ofNat_of_lt (by omega)
    have e4 := h1
    rw [Int32.lt_iff_toInt_lt, Int32.toInt_zero] at e4
    omega
  have e0 : ∀ n, (if p0 < Int32.ofNat y.1 then p0 else Int32.ofNat y.1) = n ↔ Int32.ofNat y.1 = n := fun n => by rw [if_neg n3]
  have ec : (if p0 < Int32.ofNat y.1 then p0 else Int32.ofNat y.1) = Int32.ofNat y.1 := if_neg n3
  refine zW_intro (by decide +kernel) (Nat.le_of_ble_eq_true rfl) ?_
  intro p e s m below meth c A C hnm hA hG hP hD hS ls hl
  have C : zC D (zty cI cB cJ) p s m ([.ref (vA 0), .int p0] : List Value).toArray meth c cJ7_copyOf_9075b RJ7 (some (.array .byte)) 3 := C
  have hx := C.1
  have hb := C.2.1
  have hts := C.2.2.1
  have hown := C.2.2.2.1
  have hml := C.2.2.2.2.2.1
  have hK := C.2.2.2.2.2.2.2
  have hl : lv_has ls 3 [(0, .ref (vA 0)), (1, .int p0)] := hl
  have hP : va_P D vwCl (wY cB vA y) s.heap := hP
  have hD : va_D A (wY cB vA y) := hD
  refine lv_iload_n hx hb dJ7_copyOf_9075b_0 rfl (lv_at hl 1 rfl) ?_
  refine lv_aload_n hx hb dJ7_copyOf_9075b_1 rfl (lv_at hl 0 rfl) ?_
  refine va_alen hx hb hK hP 0 1 rfl rfl rfl dJ7_copyOf_9075b_2 ?_
  refine lv_icmp_ne (tgt := 14) hx hb dJ7_copyOf_9075b_3 (by decide) (fun _ => ?_) (fun z => absurd z h2)
  refine lv_iload_n hx hb dJ7_copyOf_9075b_14 rfl (lv_at hl 1 rfl) ?_
  refine z_newB C q357 hA hP hD hS h1 rfl (by omega) (Nat.le_of_ble_eq_true rfl) (show 0 + p0.toNatClampNeg ≤ 34 by omega) dJ7_copyOf_9075b_15 (fun q H hP hD hS => ?_)
  have hP : va_P D vwCl ([((vA 0), .inl (cB, y.1, .inl y.2)), (q, .inl (cB, p0.toNatClampNeg, .inl (fun _ => 0)))]) H := hP
  have hD : va_D A ([((vA 0), .inl (cB, y.1, .inl y.2)), (q, .inl (cB, p0.toNatClampNeg, .inl (fun _ => 0)))]) := hD
  refine lv_astore_n (lv' := [(2, .ref q), (0, .ref (vA 0)), (1, .int p0)]) hx hb dJ7_copyOf_9075b_17 rfl hl (by decide) rfl (fun ls hl => ?_)
  refine lv_aload_n hx hb dJ7_copyOf_9075b_18 rfl (lv_at hl 1 rfl) ?_
  refine lv_iconst (v := 0) hx hb dJ7_copyOf_9075b_19 (by decide) ?_
  refine lv_aload_n hx hb dJ7_copyOf_9075b_20 rfl (lv_at hl 0 rfl) ?_
  refine lv_iconst (v := 0) hx hb dJ7_copyOf_9075b_21 (by decide) ?_
  refine lv_aload_n hx hb dJ7_copyOf_9075b_22 rfl (lv_at hl 1 rfl) ?_
  refine va_alen hx hb hK hP 0 1 rfl rfl rfl dJ7_copyOf_9075b_23 ?_
  refine lv_iload_n hx hb dJ7_copyOf_9075b_24 rfl (lv_at hl 2 rfl) ?_
  refine va_mmin hx hb (hml.trans hl.1.symm) hown (hts _ q358) (hts _ q43) (hts _ q44) (hts _ q45) (Nat.le_of_ble_eq_true rfl) (Nat.le_of_ble_eq_true rfl) (Nat.le_of_ble_eq_true rfl) (show 0 + p0.toNatClampNeg ≤ 34 by omega) dJ7_copyOf_9075b_25 ?_
  rw [ec]
  refine va_copyi hx hb (hml.trans hl.1.symm) hown (hts _ q359) (hts _ q56) (hts _ q57) (hts _ q58) hK hP hD hS 0 1 1 1 rfl rfl rfl rfl rfl (by decide) (by decide) n2 (by rw [n1]; show 0 + y.1 ≤ y.1; omega) (by rw [n1]; show 0 + y.1 ≤ p0.toNatClampNeg; omega) (fun i hi => by rw [n1] at hi; exact (congrArg (fun z => fits .byte (.int (y.2 z))) (Nat.zero_add i)).trans (h5 i hi)) (Nat.le_of_ble_eq_true rfl) (Nat.le_of_ble_eq_true rfl) dJ7_copyOf_9075b_28 (fun H locs hP hD hS => ?_)
  have hP : va_P D vwCl ([((vA 0), .inl (cB, y.1, .inl y.2)), (q, .inl (cB, p0.toNatClampNeg, .inl (va_cpy y.2 (fun _ => 0) 0 0 (Int32.ofNat y.1).toNatClampNeg)))]) H := hP
  have hD : va_D A ([((vA 0), .inl (cB, y.1, .inl y.2)), (q, .inl (cB, p0.toNatClampNeg, .inl (va_cpy y.2 (fun _ => 0) 0 0 (Int32.ofNat y.1).toNatClampNeg)))]) := hD
  rw [n1] at hP hD
  refine lv_aload_n hx hb dJ7_copyOf_9075b_31 rfl (lv_at hl 0 rfl) ?_
  exact zW_aret C (Or.inr ⟨_, rfl⟩) q rfl trivial hP hD hS (Nat.le_of_ble_eq_true rfl) (show 0 + p0.toNatClampNeg ≤ 34 by omega) dJ7_copyOf_9075b_32
theorem q360 : (Jvm.Cond.fieldLink "java/lang/String" (1053 : Nat) "jdk/internal/util/Preconditions" "SIOOBE_FORMATTER" "Ljava/util/function/BiFunction;") ∈ lw_all := mt3 57 (by decide +kernel) (by decide +kernel)
theorem q361 : (Jvm.Cond.methodLink "java/lang/String" (1059 : Nat) ({ cls := "jdk/internal/util/Preconditions", name := "checkIndex", desc := "(IILjava/util/function/BiFunction;)I" } : Jvm.MethodName)) ∈ lw_all := mt3 155 (by decide +kernel) (by decide +kernel)
theorem q362 : (Jvm.Cond.initialized "jdk/internal/util/Preconditions") ∈ lw_all := mt1 20 (by decide +kernel) (by decide +kernel)
theorem q363 : (Jvm.Cond.code ({ cls := "jdk/internal/util/Preconditions", name := "checkIndex", desc := "(IILjava/util/function/BiFunction;)I" } : Jvm.MethodName) prog_25_method_11_code (3 : Nat) (Option.some Jvm.ClassFile.FieldType.int)) ∈ lw_all := mt3 157 (by decide +kernel) (by decide +kernel)
theorem q364 : (Jvm.Cond.static ({ cls := "jdk/internal/util/Preconditions", name := "checkIndex", desc := "(IILjava/util/function/BiFunction;)I" } : Jvm.MethodName)) ∈ lw_all := mt3 156 (by decide +kernel) (by decide +kernel)
theorem v_J3_checkIndex_8e157 : zSt yJ3_checkIndex_8e157 cJ3_checkIndex_8e157 3 (some .int) 3 := ⟨q364, q362, q363, by decide +kernel, by decide +kernel, by decide +kernel⟩
set_option maxHeartbeats 4000000 in
set_option maxRecDepth 100000 in
theorem c_J3_checkIndex_n {l : Launch} (hfl : l.stackTraces = false) {s0 : State} (hs0 : zS s0) (D : va_G) (cI cB cJ : ClassId) (p0 p1 : Int32) {post : Int32 → Prop} (h : ¬ p0 < 0 ∧ p0 < p1 ∧ post p0) : zR s0 l D (zty cI cB cJ) yJ3_checkIndex_8e157 cJ3_checkIndex_8e157 3 (some .int) 1 [.int p0, .int p1, .null] ([] : va_W) (fun u : Int32 => some (Value.int u)) (fun u : Int32 => post u) := by
  refine zR_intro (by decide +kernel) (Nat.le_of_ble_eq_true rfl) ?_
  intro p e s m below meth c C hP hG ls hl
  have C : zC D (zty cI cB cJ) p s m ([.int p0, .int p1, .null] : List Value).toArray meth c cJ3_checkIndex_8e157 RJ3 (some .int) 3 := C
  have hx := C.1
  have hb := C.2.1
  have hts := C.2.2.1
  have hown := C.2.2.2.1
  have hml := C.2.2.2.2.2.1
  have hK := C.2.2.2.2.2.2.2
  have hl : lv_has ls 3 [(0, .int p0), (1, .int p1), (2, .null)] := hl
  refine lv_iload_n hx hb dJ3_checkIndex_8e157_0 rfl (lv_at hl 0 rfl) ?_
  refine lv_if_lt (tgt := 9) hx hb dJ3_checkIndex_8e157_1 (by decide) (fun z => absurd z h.1) (fun _ => ?_)
  refine lv_iload_n hx hb dJ3_checkIndex_8e157_4 rfl (lv_at hl 0 rfl) ?_
  refine lv_iload_n hx hb dJ3_checkIndex_8e157_5 rfl (lv_at hl 1 rfl) ?_
  refine lv_icmp_lt (tgt := 16) hx hb dJ3_checkIndex_8e157_6 (by decide) (fun _ => ?_) (fun z => absurd h.2.1 z)
  refine lv_iload_n hx hb dJ3_checkIndex_8e157_16 rfl (lv_at hl 0 rfl) ?_
  exact zR_iret C p0 rfl h.2.2 dJ3_checkIndex_8e157_17
set_option maxHeartbeats 4000000 in
set_option maxRecDepth 100000 in
theorem c_J3_checkIndex_r {l : Launch} (hfl : l.stackTraces = false) {s0 : State} (hs0 : zS s0) (D : va_G) (cI cB cJ : ClassId) (ft : Nat) (p0 p1 : Int32) {post : Int32 → Prop} (h : ¬ p0 < 0 ∧ p0 < p1 ∧ post p0) : zR s0 l D (zty cI cB cJ) yJ3_checkIndex_8e157 cJ3_checkIndex_8e157 3 (some .int) 1 [.int p0, .int p1, .ref ft] ([] : va_W) (fun u : Int32 => some (Value.int u)) (fun u : Int32 => post u) := by
  refine zR_intro (by decide +kernel) (Nat.le_of_ble_eq_true rfl) ?_
  intro p e s m below meth c C hP hG ls hl
  have C : zC D (zty cI cB cJ) p s m ([.int p0, .int p1, .ref ft] : List Value).toArray meth c cJ3_checkIndex_8e157 RJ3 (some .int) 3 := C
  have hx := C.1
  have hb := C.2.1
  have hts := C.2.2.1
  have hown := C.2.2.2.1
  have hml := C.2.2.2.2.2.1
  have hK := C.2.2.2.2.2.2.2
  have hl : lv_has ls 3 [(0, .int p0), (1, .int p1), (2, .ref ft)] := hl
  refine lv_iload_n hx hb dJ3_checkIndex_8e157_0 rfl (lv_at hl 0 rfl) ?_
  refine lv_if_lt (tgt := 9) hx hb dJ3_checkIndex_8e157_1 (by decide) (fun z => absurd z h.1) (fun _ => ?_)
  refine lv_iload_n hx hb dJ3_checkIndex_8e157_4 rfl (lv_at hl 0 rfl) ?_
  refine lv_iload_n hx hb dJ3_checkIndex_8e157_5 rfl (lv_at hl 1 rfl) ?_
  refine lv_icmp_lt (tgt := 16) hx hb dJ3_checkIndex_8e157_6 (by decide) (fun _ => ?_) (fun z => absurd h.2.1 z)
  refine lv_iload_n hx hb dJ3_checkIndex_8e157_16 rfl (lv_at hl 0 rfl) ?_
  exact zR_iret C p0 rfl h.2.2 dJ3_checkIndex_8e157_17
def wpJ0_checkIndex_df160 (post : Prop) (p0 p1 : Int32) : Prop := ¬ p0 < 0 ∧ p0 < p1 ∧ post
set_option maxHeartbeats 4000000 in
set_option maxRecDepth 100000 in
theorem c_J0_checkIndex_df160 {l : Launch} (hfl : l.stackTraces = false) {s0 : State} (hs0 : zS s0) (D : va_G) (cI cB cJ : ClassId) (p0 p1 : Int32) {post : Prop} (h : wpJ0_checkIndex_df160 post p0 p1) : zR s0 l D (zty cI cB cJ) yJ0_checkIndex_df160 cJ0_checkIndex_df160 2 none 2 [.int p0, .int p1] ([] : va_W) (fun _ : Unit => none) (fun _ : Unit => post) := by
  refine zR_intro (by decide +kernel) (Nat.le_of_ble_eq_true rfl) ?_
  intro p e s m below meth c C hP hG ls hl
  have C : zC D (zty cI cB cJ) p s m ([.int p0, .int p1] : List Value).toArray meth c cJ0_checkIndex_df160 RJ0 none 2 := C
  have hx := C.1
  have hb := C.2.1
  have hts := C.2.2.1
  have hown := C.2.2.2.1
  have hml := C.2.2.2.2.2.1
  have hK := C.2.2.2.2.2.2.2
  have hl : lv_has ls 2 [(0, .int p0), (1, .int p1)] := hl
  refine lv_iload_n hx hb dJ0_checkIndex_df160_0 rfl (lv_at hl 0 rfl) ?_
  refine lv_iload_n hx hb dJ0_checkIndex_df160_1 rfl (lv_at hl 1 rfl) ?_
  rcases z_SF hs0 hG with hz | ⟨ft, hz⟩
  · refine va_gets hx hb hz va_S.rf hown (hts _ q360) (fun _ h => h) dJ0_checkIndex_df160_2 ?_
    refine z_RS (As := [.int p0, .int p1, .null]) (rest := []) [] C hG hP (c_J3_checkIndex_n (post := fun _ => post) hfl hs0 D cI cB cJ p0 p1 h) q361 v_J3_checkIndex_8e157 rfl rfl ⟨(Nat.le_of_ble_eq_true rfl), (Nat.le_of_ble_eq_true rfl)⟩ ⟨(Nat.le_of_ble_eq_true rfl), (Nat.le_of_ble_eq_true rfl)⟩ hl.1 rfl (lv_room (Nat.le_of_ble_eq_true rfl)) dJ0_checkIndex_df160_5 (fun r5 h => ?_)
    refine lv_pop hx hb dJ0_checkIndex_df160_8 rfl ?_
    exact zR_vret C () rfl h dJ0_checkIndex_df160_9
  · refine va_gets hx hb hz va_S.rf hown (hts _ q360) (fun _ h => h) dJ0_checkIndex_df160_2 ?_
    refine z_RS (As := [.int p0, .int p1, .ref ft]) (rest := []) [] C hG hP (c_J3_checkIndex_r (post := fun _ => post) hfl hs0 D cI cB cJ ft p0 p1 h) q361 v_J3_checkIndex_8e157 rfl rfl ⟨(Nat.le_of_ble_eq_true rfl), (Nat.le_of_ble_eq_true rfl)⟩ ⟨(Nat.le_of_ble_eq_true rfl), (Nat.le_of_ble_eq_true rfl)⟩ hl.1 rfl (lv_room (Nat.le_of_ble_eq_true rfl)) dJ0_checkIndex_df160_5 (fun r5 h => ?_)
    refine lv_pop hx hb dJ0_checkIndex_df160_8 rfl ?_
    exact zR_vret C () rfl h dJ0_checkIndex_df160_9
theorem q365 : (Jvm.Cond.methodLink "java/lang/AbstractStringBuilder" (104 : Nat) ({ cls := "java/lang/AbstractStringBuilder", name := "newCapacity", desc := "(I)I" } : Jvm.MethodName)) ∈ lw_all := mt3 6 (by decide +kernel) (by decide +kernel)
theorem q366 : (Jvm.Cond.methodLink "java/lang/AbstractStringBuilder" (108 : Nat) ({ cls := "java/util/Arrays", name := "copyOf", desc := "([BI)[B" } : Jvm.MethodName)) ∈ lw_all := mt3 21 (by decide +kernel) (by decide +kernel)
theorem q367 : (Jvm.Cond.initialized "java/util/Arrays") ∈ lw_all := mt1 18 (by decide +kernel) (by decide +kernel)
theorem q368 : (Jvm.Cond.code ({ cls := "java/util/Arrays", name := "copyOf", desc := "([BI)[B" } : Jvm.MethodName) prog_23_method_121_code (3 : Nat) (Option.some (Jvm.ClassFile.FieldType.array Jvm.ClassFile.FieldType.byte))) ∈ lw_all := mt3 23 (by decide +kernel) (by decide +kernel)
theorem q369 : (Jvm.Cond.static ({ cls := "java/util/Arrays", name := "copyOf", desc := "([BI)[B" } : Jvm.MethodName)) ∈ lw_all := mt3 22 (by decide +kernel) (by decide +kernel)
theorem q370 : (Jvm.Cond.instanceMethod ({ cls := "java/lang/AbstractStringBuilder", name := "newCapacity", desc := "(I)I" } : Jvm.MethodName)) ∈ lw_all := mt3 8 (by decide +kernel) (by decide +kernel)
theorem q371 : (Jvm.Cond.sameMethod "java/lang/AbstractStringBuilder" "java/lang/AbstractStringBuilder" "newCapacity" "(I)I") ∈ lw_all := mt6 9 (by decide +kernel) (by decide +kernel)
theorem q372 : (Jvm.Cond.initialized "java/lang/AbstractStringBuilder") ∈ lw_all := mt1 5 (by decide +kernel) (by decide +kernel)
theorem q373 : (Jvm.Cond.code ({ cls := "java/lang/AbstractStringBuilder", name := "newCapacity", desc := "(I)I" } : Jvm.MethodName) prog_6_method_10_code (6 : Nat) (Option.some Jvm.ClassFile.FieldType.int)) ∈ lw_all := mt3 9 (by decide +kernel) (by decide +kernel)
theorem q374 : (Cond.selects "java/lang/StringBuilder" (⟨"java/lang/AbstractStringBuilder", "newCapacity", "(I)I"⟩ : MethodName) (⟨"java/lang/AbstractStringBuilder", "newCapacity", "(I)I"⟩ : MethodName)) ∈ lw_all := mt7 0 (by decide +kernel) (by decide +kernel)
theorem v_J7_copyOf_9075b : zSt yJ7_copyOf_9075b cJ7_copyOf_9075b 3 (some (.array .byte)) 2 := ⟨q369, q367, q368, by decide +kernel, by decide +kernel, by decide +kernel⟩
theorem u_J5_newCapacity_0f7a4 : zU yJ5_newCapacity_0f7a4 cJ5_newCapacity_0f7a4 6 (some .int) 1 := ⟨q370, q371, q372, q373, by decide +kernel, by decide +kernel, by decide +kernel⟩
def wpJ5_ensureCapacityInternal_d00df (post : SS → Prop) (x : SS) (p0 : Int32) : Prop := ((p0 - ((Int32.ofNat x.2.1.1) >>> ((0 : Int32) &&& 31))) ≤ 0 → post x) ∧ (¬ (p0 - ((Int32.ofNat x.2.1.1) >>> ((0 : Int32) &&& 31))) ≤ 0 → wpJ5_newCapacity_0f7a4 (fun r24 => ¬ (r24 <<< ((0 : Int32) &&& 31)) < 0 ∧ ¬ (r24 <<< ((0 : Int32) &&& 31)) = Int32.ofNat x.2.1.1 ∧ x.2.1.1 ≤ (r24 <<< ((0 : Int32) &&& 31)).toNatClampNeg ∧ (r24 <<< ((0 : Int32) &&& 31)).toNatClampNeg ≤ 34 ∧ (∀ i : Nat, i < x.2.1.1 → fits .byte (.int (x.2.1.2 i)) = true) ∧ (∀ q9 : Nat, post (q9, ((r24 <<< ((0 : Int32) &&& 31)).toNatClampNeg, (va_cpy x.2.1.2 (fun _ => 0) 0 0 x.2.1.1)), x.2.2.1, x.2.2.2))) x p0)
set_option maxHeartbeats 4000000 in
set_option maxRecDepth 100000 in
theorem c_J5_ensureCapacityInternal_d00df {l : Launch} (hfl : l.stackTraces = false) {s0 : State} (hs0 : zS s0) (D : va_G) (cI cB cJ : ClassId) (sA : Nat → Nat) (x : SS) (p0 : Int32) {post : SS → Prop} (h : wpJ5_ensureCapacityInternal_d00df post x p0) : zW s0 l D (zty cI cB cJ) yJ5_ensureCapacityInternal_d00df cJ5_ensureCapacityInternal_d00df 3 none 4 1 34 [.ref (sA 0), .int p0] (wS cB sA x) (fun _ : SS => none) (fun u : SS => post u) (fun u : SS => wS cB sA u) := by
  refine zW_intro (by decide +kernel) (Nat.le_of_ble_eq_true rfl) ?_
  intro p e s m below meth c A C hnm hA hG hP hD hS ls hl
  have C : zC D (zty cI cB cJ) p s m ([.ref (sA 0), .int p0] : List Value).toArray meth c cJ5_ensureCapacityInternal_d00df RJ5 none 3 := C
  have hx := C.1
  have hb := C.2.1
  have hts := C.2.2.1
  have hown := C.2.2.2.1
  have hml := C.2.2.2.2.2.1
  have hK := C.2.2.2.2.2.2.2
  have hl : lv_has ls 3 [(0, .ref (sA 0)), (1, .int p0)] := hl
  have hP : va_P D vwCl (wS cB sA x) s.heap := hP
  have hD : va_D A (wS cB sA x) := hD
  unfold wpJ5_ensureCapacityInternal_d00df at h
  refine lv_aload_n hx hb dJ5_ensureCapacityInternal_d00df_0 rfl (lv_at hl 0 rfl) ?_
  refine z_get C f_J5_15 hP (q0 := 0) rfl rfl dJ5_ensureCapacityInternal_d00df_1 ?_
  refine va_alen hx hb hK hP 1 1 rfl rfl rfl dJ5_ensureCapacityInternal_d00df_4 ?_
  refine lv_aload_n hx hb dJ5_ensureCapacityInternal_d00df_5 rfl (lv_at hl 0 rfl) ?_
  refine z_get C f_J5_22 hP (q0 := 0) rfl rfl dJ5_ensureCapacityInternal_d00df_6 ?_
  refine lv_ishr hx hb dJ5_ensureCapacityInternal_d00df_9 ?_
  refine lv_istore_n (lv' := [(2, .int ((Int32.ofNat x.2.1.1) >>> ((0 : Int32) &&& 31))), (0, .ref (sA 0)), (1, .int p0)]) hx hb dJ5_ensureCapacityInternal_d00df_10 rfl hl (by decide) rfl (fun ls hl => ?_)
  refine lv_iload_n hx hb dJ5_ensureCapacityInternal_d00df_11 rfl (lv_at hl 2 rfl) ?_
  refine lv_iload_n hx hb dJ5_ensureCapacityInternal_d00df_12 rfl (lv_at hl 0 rfl) ?_
  refine lv_isub hx hb dJ5_ensureCapacityInternal_d00df_13 ?_
  refine lv_if_le (tgt := 38) hx hb dJ5_ensureCapacityInternal_d00df_14 (by decide) (fun c14 => ?_) (fun c14 => ?_)
  · have h := h.1 c14
    exact zW_vret C x rfl h hP hD hS (Nat.le_of_ble_eq_true rfl) (Nat.le_of_ble_eq_true rfl) dJ5_ensureCapacityInternal_d00df_38
  · have h := h.2 c14
    refine lv_aload_n hx hb dJ5_ensureCapacityInternal_d00df_17 rfl (lv_at hl 1 rfl) ?_
    refine lv_aload_n hx hb dJ5_ensureCapacityInternal_d00df_18 rfl (lv_at hl 1 rfl) ?_
    refine z_get C f_J5_15 hP (q0 := 0) rfl rfl dJ5_ensureCapacityInternal_d00df_19 ?_
    refine lv_aload_n hx hb dJ5_ensureCapacityInternal_d00df_22 rfl (lv_at hl 1 rfl) ?_
    refine lv_iload_n hx hb dJ5_ensureCapacityInternal_d00df_23 rfl (lv_at hl 2 rfl) ?_
    refine z_RU (As := [.int p0]) (rest := [.ref x.1, .ref (sA 0)]) [0, 1] C (hG.kept hS.1 hS.2.1).none hP (c_J5_newCapacity_0f7a4 hfl hs0 D cI cB cJ sA x p0 h) q365 u_J5_newCapacity_0f7a4 (hts _ q374) rfl rfl rfl rfl ⟨(Nat.le_of_ble_eq_true rfl), (Nat.le_of_ble_eq_true rfl)⟩ ⟨(Nat.le_of_ble_eq_true rfl), (Nat.le_of_ble_eq_true rfl)⟩ hl.1 rfl (lv_room (Nat.le_of_ble_eq_true rfl)) dJ5_ensureCapacityInternal_d00df_24 (fun r24 h => ?_)
    refine lv_aload_n hx hb dJ5_ensureCapacityInternal_d00df_27 rfl (lv_at hl 1 rfl) ?_
    refine z_get C f_J5_22 hP (q0 := 0) rfl rfl dJ5_ensureCapacityInternal_d00df_28 ?_
    refine lv_ishl hx hb dJ5_ensureCapacityInternal_d00df_31 ?_
    obtain ⟨g1, g2, g3, g4, g5, h⟩ := h
    refine z_WS (As := [.ref x.1, .int (r24 <<< ((0 : Int32) &&& 31))]) (rest := [.ref (sA 0)]) (wr := (List.filterMap (fun i => (wS cB sA x)[i]?) [0])) (wN := (fun u : Nat => wS cB sA x ++ [(u, .inl (cB, (r24 <<< ((0 : Int32) &&& 31)).toNatClampNeg, .inl (va_cpy x.2.1.2 (fun _ => 0) 0 0 x.2.1.1)))])) [1] [0] [0, 1, 2] C hG hA hP hD hS (c_J7_copyOf_9075b hfl hs0 D cI cB cJ (fun _ : Nat => x.1) (x.2.1.1, x.2.1.2) (r24 <<< ((0 : Int32) &&& 31)) ⟨g1, g2, g3, g4, g5⟩) q366 v_J7_copyOf_9075b rfl rfl ⟨by decide, by decide, by decide⟩ (by decide) (fun _ => rfl) rfl ⟨(Nat.le_of_ble_eq_true rfl), (Nat.le_of_ble_eq_true rfl)⟩ ⟨(Nat.le_of_ble_eq_true rfl), (Nat.le_of_ble_eq_true rfl)⟩ hl.1 rfl (lv_room (Nat.le_of_ble_eq_true rfl)) dJ5_ensureCapacityInternal_d00df_32 (fun q9 H locs _ hP hD hS => ?_)
    have h := h q9
    refine z_put C f_J5_15 zt_J4 rfl rfl rfl rfl hP hD hS (q0 := 0) rfl (Nat.le_of_ble_eq_true rfl) dJ5_ensureCapacityInternal_d00df_35 (fun H locs hP hD hS => ?_)
    have hP : va_P D vwCl (wS cB sA (q9, ((r24 <<< ((0 : Int32) &&& 31)).toNatClampNeg, (va_cpy x.2.1.2 (fun _ => 0) 0 0 x.2.1.1)), x.2.2.1, x.2.2.2)) H := hP.sub [0, 2] (z_fm _ _ rfl)
    have hD : va_D A (wS cB sA (q9, ((r24 <<< ((0 : Int32) &&& 31)).toNatClampNeg, (va_cpy x.2.1.2 (fun _ => 0) 0 0 x.2.1.1)), x.2.2.1, x.2.2.2)) := hD.sub [0, 2] (by decide) rfl
    exact zW_vret C (q9, ((r24 <<< ((0 : Int32) &&& 31)).toNatClampNeg, (va_cpy x.2.1.2 (fun _ => 0) 0 0 x.2.1.1)), x.2.2.1, x.2.2.2) rfl h hP hD hS (Nat.le_of_ble_eq_true rfl) (Nat.le_of_ble_eq_true rfl) dJ5_ensureCapacityInternal_d00df_38

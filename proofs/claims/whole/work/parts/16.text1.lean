/-! THE TEXT OF A DUTY, in the class -/
theorem q492 : (Jvm.Cond.methodLink "PactClocks$Terms" (69 : Nat) ({ cls := "java/lang/StringBuilder", name := "length", desc := "()I" } : Jvm.MethodName)) ∈ lw_all := mt3 158 (by decide +kernel) (by decide +kernel)
theorem q493 : (Jvm.Cond.methodLink "PactClocks$Terms" (77 : Nat) ({ cls := "java/lang/StringBuilder", name := "charAt", desc := "(I)C" } : Jvm.MethodName)) ∈ lw_all := mt3 168 (by decide +kernel) (by decide +kernel)
theorem q494 : (Jvm.Cond.code ({ cls := "java/lang/StringBuilder", name := "charAt", desc := "(I)C" } : Jvm.MethodName) prog_17_method_88_code (2 : Nat) (Option.some Jvm.ClassFile.FieldType.char)) ∈ lw_all := mt3 171 (by decide +kernel) (by decide +kernel)
theorem q495 : (Jvm.Cond.instanceMethod ({ cls := "java/lang/StringBuilder", name := "charAt", desc := "(I)C" } : Jvm.MethodName)) ∈ lw_all := mt3 169 (by decide +kernel) (by decide +kernel)
theorem q496 : (Jvm.Cond.selects "java/lang/StringBuilder" ({ cls := "java/lang/StringBuilder", name := "charAt", desc := "(I)C" } : Jvm.MethodName) ({ cls := "java/lang/StringBuilder", name := "charAt", desc := "(I)C" } : Jvm.MethodName)) ∈ lw_all := mt3 170 (by decide +kernel) (by decide +kernel)
theorem q497 : (Jvm.Cond.code ({ cls := "java/lang/StringBuilder", name := "length", desc := "()I" } : Jvm.MethodName) prog_17_method_93_code (1 : Nat) (Option.some Jvm.ClassFile.FieldType.int)) ∈ lw_all := mt3 161 (by decide +kernel) (by decide +kernel)
theorem q498 : (Jvm.Cond.instanceMethod ({ cls := "java/lang/StringBuilder", name := "length", desc := "()I" } : Jvm.MethodName)) ∈ lw_all := mt3 159 (by decide +kernel) (by decide +kernel)
theorem q499 : (Jvm.Cond.selects "java/lang/StringBuilder" ({ cls := "java/lang/StringBuilder", name := "length", desc := "()I" } : Jvm.MethodName) ({ cls := "java/lang/StringBuilder", name := "length", desc := "()I" } : Jvm.MethodName)) ∈ lw_all := mt3 160 (by decide +kernel) (by decide +kernel)
theorem q500 : (Jvm.Cond.classLink "PactClocks$Terms" (50 : Nat) "java/lang/StringBuilder") ∈ lw_all := mt2 200 (by decide +kernel) (by decide +kernel)
theorem q501 : (Jvm.Cond.methodLink "PactClocks$Terms" (52 : Nat) ({ cls := "java/lang/StringBuilder", name := "<init>", desc := "()V" } : Jvm.MethodName)) ∈ lw_all := mt2 202 (by decide +kernel) (by decide +kernel)
theorem q502 : (Jvm.Cond.methodLink "PactClocks$Terms" (53 : Nat) ({ cls := "java/lang/StringBuilder", name := "append", desc := "(I)Ljava/lang/StringBuilder;" } : Jvm.MethodName)) ∈ lw_all := mt2 232 (by decide +kernel) (by decide +kernel)
theorem q503 : (Jvm.Cond.methodLink "PactClocks$Terms" (59 : Nat) ({ cls := "java/lang/StringBuilder", name := "append", desc := "(Ljava/lang/String;)Ljava/lang/StringBuilder;" } : Jvm.MethodName)) ∈ lw_all := mt3 77 (by decide +kernel) (by decide +kernel)
theorem q504 : (Jvm.Cond.methodLink "PactClocks$Terms" (66 : Nat) ({ cls := "java/lang/StringBuilder", name := "append", desc := "(C)Ljava/lang/StringBuilder;" } : Jvm.MethodName)) ∈ lw_all := mt3 136 (by decide +kernel) (by decide +kernel)
theorem q505 : (Jvm.Cond.methodLink "PactClocks$Terms" (73 : Nat) ({ cls := "PactClocks$Terms", name := "sealFor", desc := "(Ljava/lang/StringBuilder;)I" } : Jvm.MethodName)) ∈ lw_all := mt3 165 (by decide +kernel) (by decide +kernel)
theorem q506 : (Jvm.Cond.code ({ cls := "PactClocks$Terms", name := "sealFor", desc := "(Ljava/lang/StringBuilder;)I" } : Jvm.MethodName) prog_3_method_4_code (3 : Nat) (Option.some Jvm.ClassFile.FieldType.int)) ∈ lw_all := mt3 167 (by decide +kernel) (by decide +kernel)
theorem q507 : (Jvm.Cond.static ({ cls := "PactClocks$Terms", name := "sealFor", desc := "(Ljava/lang/StringBuilder;)I" } : Jvm.MethodName)) ∈ lw_all := mt3 166 (by decide +kernel) (by decide +kernel)
theorem q508 : (Jvm.Cond.code ({ cls := "java/lang/StringBuilder", name := "append", desc := "(C)Ljava/lang/StringBuilder;" } : Jvm.MethodName) prog_17_method_14_code (2 : Nat) (Option.some (Jvm.ClassFile.FieldType.object "java/lang/StringBuilder"))) ∈ lw_all := mt3 139 (by decide +kernel) (by decide +kernel)
theorem q509 : (Jvm.Cond.instanceMethod ({ cls := "java/lang/StringBuilder", name := "append", desc := "(C)Ljava/lang/StringBuilder;" } : Jvm.MethodName)) ∈ lw_all := mt3 137 (by decide +kernel) (by decide +kernel)
theorem q510 : (Jvm.Cond.selects "java/lang/StringBuilder" ({ cls := "java/lang/StringBuilder", name := "append", desc := "(C)Ljava/lang/StringBuilder;" } : Jvm.MethodName) ({ cls := "java/lang/StringBuilder", name := "append", desc := "(C)Ljava/lang/StringBuilder;" } : Jvm.MethodName)) ∈ lw_all := mt3 138 (by decide +kernel) (by decide +kernel)
theorem q511 : (Jvm.Cond.code ({ cls := "java/lang/StringBuilder", name := "append", desc := "(I)Ljava/lang/StringBuilder;" } : Jvm.MethodName) prog_17_method_15_code (2 : Nat) (Option.some (Jvm.ClassFile.FieldType.object "java/lang/StringBuilder"))) ∈ lw_all := mt2 235 (by decide +kernel) (by decide +kernel)
theorem q512 : (Jvm.Cond.instanceMethod ({ cls := "java/lang/StringBuilder", name := "append", desc := "(I)Ljava/lang/StringBuilder;" } : Jvm.MethodName)) ∈ lw_all := mt2 233 (by decide +kernel) (by decide +kernel)
theorem q513 : (Jvm.Cond.selects "java/lang/StringBuilder" ({ cls := "java/lang/StringBuilder", name := "append", desc := "(I)Ljava/lang/StringBuilder;" } : Jvm.MethodName) ({ cls := "java/lang/StringBuilder", name := "append", desc := "(I)Ljava/lang/StringBuilder;" } : Jvm.MethodName)) ∈ lw_all := mt2 234 (by decide +kernel) (by decide +kernel)
theorem q514 : (Jvm.Cond.code ({ cls := "java/lang/StringBuilder", name := "append", desc := "(Ljava/lang/String;)Ljava/lang/StringBuilder;" } : Jvm.MethodName) prog_17_method_7_code (2 : Nat) (Option.some (Jvm.ClassFile.FieldType.object "java/lang/StringBuilder"))) ∈ lw_all := mt3 80 (by decide +kernel) (by decide +kernel)
theorem q515 : (Jvm.Cond.instanceMethod ({ cls := "java/lang/StringBuilder", name := "append", desc := "(Ljava/lang/String;)Ljava/lang/StringBuilder;" } : Jvm.MethodName)) ∈ lw_all := mt3 78 (by decide +kernel) (by decide +kernel)
theorem q516 : (Jvm.Cond.selects "java/lang/StringBuilder" ({ cls := "java/lang/StringBuilder", name := "append", desc := "(Ljava/lang/String;)Ljava/lang/StringBuilder;" } : Jvm.MethodName) ({ cls := "java/lang/StringBuilder", name := "append", desc := "(Ljava/lang/String;)Ljava/lang/StringBuilder;" } : Jvm.MethodName)) ∈ lw_all := mt3 79 (by decide +kernel) (by decide +kernel)
theorem q517 : (Jvm.Cond.fieldLink "PactClocks$Terms" (42 : Nat) "PactClocks$Terms" "count" "I") ∈ lw_all := mt1 61 (by decide +kernel) (by decide +kernel)
theorem q518 : (Jvm.Cond.methodLink "PactClocks$Terms" (46 : Nat) ({ cls := "PactClocks$Terms", name := "keepText", desc := "(I)V" } : Jvm.MethodName)) ∈ lw_all := mt2 196 (by decide +kernel) (by decide +kernel)
theorem q519 : (Jvm.Cond.code ({ cls := "PactClocks$Terms", name := "keepText", desc := "(I)V" } : Jvm.MethodName) prog_3_method_3_code (3 : Nat) (Option.none : Option Jvm.ClassFile.FieldType)) ∈ lw_all := mt2 199 (by decide +kernel) (by decide +kernel)
theorem q520 : (Jvm.Cond.instanceMethod ({ cls := "PactClocks$Terms", name := "keepText", desc := "(I)V" } : Jvm.MethodName)) ∈ lw_all := mt2 198 (by decide +kernel) (by decide +kernel)
theorem q521 : (Cond.selects "PactClocks$Terms" (⟨"PactClocks$Terms", "keepText", "(I)V"⟩ : MethodName) (⟨"PactClocks$Terms", "keepText", "(I)V"⟩ : MethodName)) ∈ lw_all := mt0 9 (by decide +kernel) (by decide +kernel)
theorem f_X1_42 : zF RX1 "PactClocks$Terms" 42 5 10 11 RX1 TX1 := ⟨in_X1, rfl, by decide, q517, rfl⟩
theorem v_J4_charAt_5068e : zV yJ4_charAt_5068e cJ4_charAt_5068e 2 (some .char) 1 := ⟨q495, q496, q487, q494, by decide +kernel, by decide +kernel, by decide +kernel⟩
theorem v_J4_length_8abf5 : zV yJ4_length_8abf5 cJ4_length_8abf5 1 (some .int) 0 := ⟨q498, q499, q487, q497, by decide +kernel, by decide +kernel, by decide +kernel⟩
theorem v_X1_sealFor : zSt yX1_sealFor cX1_sealFor 3 (some .int) 1 := ⟨q507, q237, q506, by decide +kernel, by decide +kernel, by decide +kernel⟩
theorem v_J4_append_cf468 : zV yJ4_append_cf468 cJ4_append_cf468 2 (some (.object "java/lang/StringBuilder")) 1 := ⟨q509, q510, q487, q508, by decide +kernel, by decide +kernel, by decide +kernel⟩
theorem v_J4_append_bf812 : zV yJ4_append_bf812 cJ4_append_bf812 2 (some (.object "java/lang/StringBuilder")) 1 := ⟨q512, q513, q487, q511, by decide +kernel, by decide +kernel, by decide +kernel⟩
theorem v_J4_append_15ec4 : zV yJ4_append_15ec4 cJ4_append_15ec4 2 (some (.object "java/lang/StringBuilder")) 1 := ⟨q515, q516, q487, q514, by decide +kernel, by decide +kernel, by decide +kernel⟩
theorem v_X1_keepText : zV yX1_keepText cX1_keepText 3 none 1 := ⟨q520, q521, q237, q519, by decide +kernel, by decide +kernel, by decide +kernel⟩
def sx_X1_57 : List Int32 := [32, 111, 119, 101, 115, 32]
theorem sz_X1_57 : zk_has (.string RX1 57) sx_X1_57 := ⟨by decide +kernel, by decide +kernel, by decide +kernel, by decide +kernel, fun j hj => by
  have hj : j < 6 := hj
  rcases (show j = 0 ∨ j = 1 ∨ j = 2 ∨ j = 3 ∨ j = 4 ∨ j = 5 by omega) with rfl | rfl | rfl | rfl | rfl | rfl <;> decide +kernel⟩
theorem sr_X1_57 : Cond.stringRef RX1 57 " owes " ∈ lw_tbl := List.mem_append_right _ (List.mem_append_right _ (List.mem_append_right _ (List.mem_append_left _ (List.mem_of_getElem? (i := 76) (by decide +kernel)))))
def sx_X1_62 : List Int32 := [32, 116, 111, 32]
theorem sz_X1_62 : zk_has (.string RX1 62) sx_X1_62 := ⟨by decide +kernel, by decide +kernel, by decide +kernel, by decide +kernel, fun j hj => by
  have hj : j < 4 := hj
  rcases (show j = 0 ∨ j = 1 ∨ j = 2 ∨ j = 3 by omega) with rfl | rfl | rfl | rfl <;> decide +kernel⟩
theorem sr_X1_62 : Cond.stringRef RX1 62 " to " ∈ lw_tbl := List.mem_append_right _ (List.mem_append_right _ (List.mem_append_right _ (List.mem_append_left _ (List.mem_of_getElem? (i := 134) (by decide +kernel)))))
def sx_X1_64 : List Int32 := [32, 97, 102, 116, 101, 114, 32]
theorem sz_X1_64 : zk_has (.string RX1 64) sx_X1_64 := ⟨by decide +kernel, by decide +kernel, by decide +kernel, by decide +kernel, fun j hj => by
  have hj : j < 7 := hj
  rcases (show j = 0 ∨ j = 1 ∨ j = 2 ∨ j = 3 ∨ j = 4 ∨ j = 5 ∨ j = 6 by omega) with rfl | rfl | rfl | rfl | rfl | rfl | rfl <;> decide +kernel⟩
theorem sr_X1_64 : Cond.stringRef RX1 64 " after " ∈ lw_tbl := List.mem_append_right _ (List.mem_append_right _ (List.mem_append_right _ (List.mem_append_left _ (List.mem_of_getElem? (i := 135) (by decide +kernel)))))
def wpX1_sealFor_b5 (post : Int32 → Prop) (x : SS) : Nat → Int32 → Int32 → Prop
  | 0, _, _ => False
  | n + 1, x1, x2 => wpJ4_length_8abf5 (fun r7 => (r7 ≤ x2 → post x1) ∧ (¬ r7 ≤ x2 → wpJ4_charAt_5068e (fun r19 => wpX1_sealFor_b5 post x n ((x1 * 31) + r19) (x2 + 1)) x x2)) x
def wpX1_sealFor (post : Int32 → Prop) (x : SS) : Prop := ∃ n5 : Nat, wpX1_sealFor_b5 post x n5 11 0
set_option maxHeartbeats 4000000 in
set_option maxRecDepth 100000 in
theorem c_X1_sealFor {l : Launch} (hfl : l.stackTraces = false) {s0 : State} (hs0 : zS s0) (D : va_G) (cI cB cJ : ClassId) (sA : Nat → Nat) (x : SS) {post : Int32 → Prop} (h : wpX1_sealFor post x) : zR s0 l D (zty cI cB cJ) yX1_sealFor cX1_sealFor 3 (some .int) 5 [.ref (sA 0)] (wS cB sA x) (fun u : Int32 => some (Value.int u)) (fun u : Int32 => post u) := by
  refine zR_intro (by decide +kernel) (Nat.le_of_ble_eq_true rfl) ?_
  intro p e s m below meth c C hP hG ls hl
  have C : zC D (zty cI cB cJ) p s m ([.ref (sA 0)] : List Value).toArray meth c cX1_sealFor RX1 (some .int) 3 := C
  have hx := C.1
  have hb := C.2.1
  have hts := C.2.2.1
  have hown := C.2.2.2.1
  have hml := C.2.2.2.2.2.1
  have hK := C.2.2.2.2.2.2.2
  have hl : lv_has ls 3 [(0, .ref (sA 0))] := hl
  have k5 : ∀ (n : Nat) (x1 : Int32) (x2 : Int32) (ls : Array Slot), lv_has ls 3 [(0, .ref (sA 0)), (1, .int x1), (2, .int x2)] → wpX1_sealFor_b5 post x n x1 x2 → W p l e (zr 5 0 0) s m ([.ref (sA 0)] : List Value).toArray below meth c s.heap [] 0 0 (MQ below (zQr (fun u : Int32 => some (Value.int u)) (fun u : Int32 => post u)) ([.ref (sA 0)] : List Value).toArray s 0 0 (fun _ => False)) (F0 m 5 ls []) := by
    intro n
    induction n with
    | zero =>
      intro x1 x2 ls hl h
      exact h.elim
    | succ n ih =>
      intro x1 x2 ls hl h
      rw [wpX1_sealFor_b5] at h
      refine lv_iload_n hx hb dX1_sealFor_5 rfl (lv_at hl 2 rfl) ?_
      refine lv_aload_n hx hb dX1_sealFor_6 rfl (lv_at hl 0 rfl) ?_
      refine z_RV (As := []) (rest := [.int x2]) [0, 1] C hG hP (c_J4_length_8abf5 hfl hs0 D cI cB cJ sA x h) q492 v_J4_length_8abf5 rfl rfl rfl rfl ⟨(Nat.le_of_ble_eq_true rfl), (Nat.le_of_ble_eq_true rfl)⟩ ⟨(Nat.le_of_ble_eq_true rfl), (Nat.le_of_ble_eq_true rfl)⟩ hl.1 rfl (lv_room (Nat.le_of_ble_eq_true rfl)) dX1_sealFor_7 (fun r7 h => ?_)
      refine lv_icmp_ge (tgt := 30) hx hb dX1_sealFor_10 (by decide) (fun c10 => ?_) (fun c10 => ?_)
      · have h := h.1 c10
        refine lv_iload_n hx hb dX1_sealFor_30 rfl (lv_at hl 1 rfl) ?_
        exact zR_iret C x1 rfl h dX1_sealFor_31
      · have h := h.2 c10
        refine lv_iload_n hx hb dX1_sealFor_13 rfl (lv_at hl 1 rfl) ?_
        refine lv_bipush (v := 31) hx hb dX1_sealFor_14 (by decide) ?_
        refine lv_imul hx hb dX1_sealFor_16 ?_
        refine lv_aload_n hx hb dX1_sealFor_17 rfl (lv_at hl 0 rfl) ?_
        refine lv_iload_n hx hb dX1_sealFor_18 rfl (lv_at hl 2 rfl) ?_
        refine z_RV (As := [.int x2]) (rest := [.int (x1 * 31)]) [0, 1] C hG hP (c_J4_charAt_5068e hfl hs0 D cI cB cJ sA x x2 h) q493 v_J4_charAt_5068e rfl rfl rfl rfl ⟨(Nat.le_of_ble_eq_true rfl), (Nat.le_of_ble_eq_true rfl)⟩ ⟨(Nat.le_of_ble_eq_true rfl), (Nat.le_of_ble_eq_true rfl)⟩ hl.1 rfl (lv_room (Nat.le_of_ble_eq_true rfl)) dX1_sealFor_19 (fun r19 h => ?_)
        refine lv_iadd hx hb dX1_sealFor_22 ?_
        refine lv_istore_n (lv' := [(1, .int ((x1 * 31) + r19)), (0, .ref (sA 0)), (2, .int x2)]) hx hb dX1_sealFor_23 rfl hl (by decide) rfl (fun ls hl => ?_)
        refine lv_iinc (v := (x2 + 1)) (lv' := [(2, .int (x2 + 1)), (1, .int ((x1 * 31) + r19)), (0, .ref (sA 0))]) hx hb dX1_sealFor_24 hl (k := 2) rfl (by first | rfl | decide) (by decide) rfl (fun ls hl => ?_)
        refine lv_goto (tgt := 5) hx hb dX1_sealFor_27 (by decide) ?_
        exact ih ((x1 * 31) + r19) (x2 + 1)  _ (lv_sub hl [2, 1, 0] rfl) h
  unfold wpX1_sealFor at h
  refine lv_bipush (v := 11) hx hb dX1_sealFor_0 (by decide) ?_
  refine lv_istore_n (lv' := [(1, .int 11), (0, .ref (sA 0))]) hx hb dX1_sealFor_2 rfl hl (by decide) rfl (fun ls hl => ?_)
  refine lv_iconst (v := 0) hx hb dX1_sealFor_3 (by decide) ?_
  refine lv_istore_n (lv' := [(2, .int 0), (1, .int 11), (0, .ref (sA 0))]) hx hb dX1_sealFor_4 rfl hl (by decide) rfl (fun ls hl => ?_)
  obtain ⟨n9, h⟩ := h
  exact k5 n9 11 0  _ (lv_sub hl [2, 1, 0] rfl) h
def wpX1_keepText (post : TS → Prop) (T : TS) (p0 : Int32) : Prop := (∀ v0 : Nat, vp_in p0 20 ∧ (wpJ4_append_bf812 (fun x15 => wpJ4_append_15ec4 (fun x20 => vp_in p0 20 ∧ (wpJ4_append_bf812 (fun x29 => wpJ4_append_15ec4 (fun x36 => vp_in p0 20 ∧ (wpJ4_append_bf812 (fun x45 => vp_in p0 20 ∧ (((T.2.2.2.2.2.2.1 p0.toNatClampNeg) = (-1) → wpJ4_append_cf468 (fun x78 => wpJ4_length_8abf5 (fun r88 => vp_in p0 20 ∧ (wpX1_sealFor (fun r98 => vp_in p0 20 ∧ (post (T.1, T.2.1, T.2.2.1, T.2.2.2.1, T.2.2.2.2.1, T.2.2.2.2.2.1, T.2.2.2.2.2.2.1, T.2.2.2.2.2.2.2.1, (upd T.2.2.2.2.2.2.2.2.1 p0.toNatClampNeg r88), (upd T.2.2.2.2.2.2.2.2.2.1 p0.toNatClampNeg r98), T.2.2.2.2.2.2.2.2.2.2))) x78)) x78) x45 46) ∧ (¬ (T.2.2.2.2.2.2.1 p0.toNatClampNeg) = (-1) → wpJ4_append_15ec4 (fun x62 => vp_in p0 20 ∧ (wpJ4_append_bf812 (fun x71 => wpJ4_append_cf468 (fun x78 => wpJ4_length_8abf5 (fun r88 => vp_in p0 20 ∧ (wpX1_sealFor (fun r98 => vp_in p0 20 ∧ (post (T.1, T.2.1, T.2.2.1, T.2.2.2.1, T.2.2.2.2.1, T.2.2.2.2.2.1, T.2.2.2.2.2.2.1, T.2.2.2.2.2.2.2.1, (upd T.2.2.2.2.2.2.2.2.1 p0.toNatClampNeg r88), (upd T.2.2.2.2.2.2.2.2.2.1 p0.toNatClampNeg r98), T.2.2.2.2.2.2.2.2.2.2))) x78)) x78) x71 46) x62 (T.2.2.2.2.2.2.1 p0.toNatClampNeg))) sx_X1_64.length (fun j : Nat => sx_X1_64.getD j 0) x45))) x36 (T.2.1 p0.toNatClampNeg))) sx_X1_62.length (fun j : Nat => sx_X1_62.getD j 0) x29) x20 (T.2.2.1 p0.toNatClampNeg))) sx_X1_57.length (fun j : Nat => sx_X1_57.getD j 0) x15) (v0, (16, (fun _ => 0)), 0, 0) (T.1 p0.toNatClampNeg)))
set_option maxHeartbeats 4000000 in
set_option maxRecDepth 100000 in
theorem c_X1_keepText {l : Launch} (hfl : l.stackTraces = false) {s0 : State} (hs0 : zS s0) (D : va_G) (cI cB cJ : ClassId) (tA : Nat → Nat) (T : TS) (p0 : Int32) {post : TS → Prop} (h : wpX1_keepText post T p0) : zW s0 l D (zty cI cB cJ) yX1_keepText cX1_keepText 3 none 7 10 292 [.ref (tA 0), .int p0] (wT cI tA T) (fun _ : TS => none) (fun u : TS => post u) (fun u : TS => wT cI tA u) := by
  refine zW_intro (by decide +kernel) (Nat.le_of_ble_eq_true rfl) ?_
  intro p e s m below meth c A C hnm hA hG hP hD hS ls hl
  have C : zC D (zty cI cB cJ) p s m ([.ref (tA 0), .int p0] : List Value).toArray meth c cX1_keepText RX1 none 3 := C
  have hx := C.1
  have hb := C.2.1
  have hts := C.2.2.1
  have hown := C.2.2.2.1
  have hml := C.2.2.2.2.2.1
  have hK := C.2.2.2.2.2.2.2
  have hl : lv_has ls 3 [(0, .ref (tA 0)), (1, .int p0)] := hl
  have hP : va_P D vwCl (wT cI tA T) s.heap := hP
  have hD : va_D A (wT cI tA T) := hD
  unfold wpX1_keepText at h
  refine va_new (ci := 1) (fs := [.null, .int 0, .int 0, .int 0]) (C := RJ4) (T := TJ4) (N := 4) hx hb hts in_J4 tyJ4 tyJ4_ok hown (hts _ q500) (hts _ q486) (hts _ q487) hK hP hD hS hA rfl (fun j hj => by rcases (show j = 0 ∨ j = 1 ∨ j = 2 ∨ j = 3 by omega) with rfl | rfl | rfl | rfl <;> rfl) (Nat.le_of_ble_eq_true rfl) (Nat.le_of_ble_eq_true rfl) dX1_keepText_0 (fun o0 H hP hD hS => ?_)
  have hP : va_P D vwCl (wT cI tA T ++ [(o0, .inr (1, [.null, .int 0, .int 0, .int 0]))]) H := hP
  have hD : va_D A (wT cI tA T ++ [(o0, .inr (1, [.null, .int 0, .int 0, .int 0]))]) := hD
  refine lv_dup hx hb dX1_keepText_3 rfl ?_
  refine z_WI (As := []) (rest := [.ref o0]) (wr := (List.filterMap (fun i => (wT cI tA T ++ [(o0, .inr (1, [.null, .int 0, .int 0, .int 0]))] : va_W)[i]?) [0, 1, 2, 3, 4, 5, 6, 7, 8, 9, 10])) (wN := (fun u : Nat => (wT cI tA T ++ wS cB (fun _ : Nat => o0) (u, (16, (fun _ => 0)), 0, 0) : va_W))) [11] [0, 1, 2, 3, 4, 5, 6, 7, 8, 9, 10] [0, 1, 2, 3, 4, 5, 6, 7, 8, 9, 10, 11, 12] C hG hA hP hD hS (c_J4_init_da8c8 hfl hs0 D cI cB cJ o0) q501 v_J4_init_da8c8 rfl rfl ⟨by decide, by decide, by decide⟩ (by decide) (fun _ => rfl) rfl ⟨(Nat.le_of_ble_eq_true rfl), (Nat.le_of_ble_eq_true rfl)⟩ ⟨(Nat.le_of_ble_eq_true rfl), (Nat.le_of_ble_eq_true rfl)⟩ hl.1 rfl (lv_room (Nat.le_of_ble_eq_true rfl)) dX1_keepText_4 (fun v0 H locs _ hP hD hS => ?_)
  have hP : va_P D vwCl (wT cI tA T ++ wS cB (fun _ : Nat => o0) (v0, (16, (fun _ => 0)), 0, 0)) H := hP
  have hD : va_D A (wT cI tA T ++ wS cB (fun _ : Nat => o0) (v0, (16, (fun _ => 0)), 0, 0)) := hD
  have h := h v0
  refine lv_astore_n (lv' := [(2, .ref o0), (0, .ref (tA 0)), (1, .int p0)]) hx hb dX1_keepText_7 rfl hl (by decide) rfl (fun ls hl => ?_)
  refine lv_aload_n hx hb dX1_keepText_8 rfl (lv_at hl 0 rfl) ?_
  refine lv_aload_n hx hb dX1_keepText_9 rfl (lv_at hl 1 rfl) ?_
  refine z_get C f_X1_9 hP (q0 := 0) rfl rfl dX1_keepText_10 ?_
  refine lv_iload_n hx hb dX1_keepText_13 rfl (lv_at hl 2 rfl) ?_
  obtain ⟨g9, h⟩ := h
  refine va_iald hx hb hK hP 1 0 rfl rfl g9 dX1_keepText_14 ?_
  refine z_WV (As := [.int (T.1 p0.toNatClampNeg)]) (rest := []) (wr := (List.filterMap (fun i => (wT cI tA T ++ wS cB (fun _ : Nat => o0) (v0, (16, (fun _ => 0)), 0, 0))[i]?) [0, 1, 2, 3, 4, 5, 6, 7, 8, 9, 10])) (wN := (fun u : SS => wT cI tA T ++ wS cB (fun _ : Nat => o0) u)) [11, 12] [0, 1, 2, 3, 4, 5, 6, 7, 8, 9, 10] [0, 1, 2, 3, 4, 5, 6, 7, 8, 9, 10, 11, 12] C hG hA hP hD hS (c_J4_append_bf812 hfl hs0 D cI cB cJ (fun _ : Nat => o0) (v0, (16, (fun _ => 0)), 0, 0) (T.1 p0.toNatClampNeg) h) q502 v_J4_append_bf812 rfl rfl ⟨by decide, by decide, by decide⟩ (by decide) (fun _ => rfl) rfl rfl rfl ⟨(Nat.le_of_ble_eq_true rfl), (Nat.le_of_ble_eq_true rfl)⟩ ⟨(Nat.le_of_ble_eq_true rfl), (Nat.le_of_ble_eq_true rfl)⟩ hl.1 rfl (lv_room (Nat.le_of_ble_eq_true rfl)) dX1_keepText_15 (fun u H locs h hP hD hS => ?_)
  obtain ⟨x15, rfl⟩ : ∃ z, z = u := ⟨_, rfl⟩
  have hP : va_P D vwCl (wT cI tA T ++ wS cB (fun _ : Nat => o0) x15) H := hP
  have hD : va_D A (wT cI tA T ++ wS cB (fun _ : Nat => o0) x15) := hD
  obtain ⟨k18, v18, hk18, hr18⟩ := zk_of hs0 sz_X1_57 (by decide) sr_X1_57
  refine va_ldcS hx hb hown (hr18 s hG.1) dX1_keepText_18 ?_
  refine z_WV (As := [.ref k18]) (rest := []) (wr := (List.filterMap (fun i => (wT cI tA T ++ wS cB (fun _ : Nat => o0) x15)[i]?) [0, 1, 2, 3, 4, 5, 6, 7, 8, 9, 10])) (wN := (fun u : SS => wT cI tA T ++ wS cB (fun _ : Nat => o0) u)) [11, 12] [0, 1, 2, 3, 4, 5, 6, 7, 8, 9, 10] [0, 1, 2, 3, 4, 5, 6, 7, 8, 9, 10, 11, 12] C hG hA hP hD hS (c_J4_append_15ec4 hfl hs0 D cI cB cJ (fun _ : Nat => o0) (fun i : Nat => [k18, v18].getD i 0) sx_X1_57.length (fun j : Nat => sx_X1_57.getD j 0) x15 hk18 h) q503 v_J4_append_15ec4 rfl rfl ⟨by decide, by decide, by decide⟩ (by decide) (fun _ => rfl) rfl rfl rfl ⟨(Nat.le_of_ble_eq_true rfl), (Nat.le_of_ble_eq_true rfl)⟩ ⟨(Nat.le_of_ble_eq_true rfl), (Nat.le_of_ble_eq_true rfl)⟩ hl.1 rfl (lv_room (Nat.le_of_ble_eq_true rfl)) dX1_keepText_20 (fun u H locs h hP hD hS => ?_)
  obtain ⟨x20, rfl⟩ : ∃ z, z = u := ⟨_, rfl⟩
  have hP : va_P D vwCl (wT cI tA T ++ wS cB (fun _ : Nat => o0) x20) H := hP
  have hD : va_D A (wT cI tA T ++ wS cB (fun _ : Nat => o0) x20) := hD
  refine lv_aload_n hx hb dX1_keepText_23 rfl (lv_at hl 1 rfl) ?_
  refine z_get C f_X1_18 hP (q0 := 0) rfl rfl dX1_keepText_24 ?_
  refine lv_iload_n hx hb dX1_keepText_27 rfl (lv_at hl 2 rfl) ?_
  obtain ⟨g9, h⟩ := h
  refine va_iald hx hb hK hP 3 0 rfl rfl g9 dX1_keepText_28 ?_
  refine z_WV (As := [.int (T.2.2.1 p0.toNatClampNeg)]) (rest := []) (wr := (List.filterMap (fun i => (wT cI tA T ++ wS cB (fun _ : Nat => o0) x20)[i]?) [0, 1, 2, 3, 4, 5, 6, 7, 8, 9, 10])) (wN := (fun u : SS => wT cI tA T ++ wS cB (fun _ : Nat => o0) u)) [11, 12] [0, 1, 2, 3, 4, 5, 6, 7, 8, 9, 10] [0, 1, 2, 3, 4, 5, 6, 7, 8, 9, 10, 11, 12] C hG hA hP hD hS (c_J4_append_bf812 hfl hs0 D cI cB cJ (fun _ : Nat => o0) x20 (T.2.2.1 p0.toNatClampNeg) h) q502 v_J4_append_bf812 rfl rfl ⟨by decide, by decide, by decide⟩ (by decide) (fun _ => rfl) rfl rfl rfl ⟨(Nat.le_of_ble_eq_true rfl), (Nat.le_of_ble_eq_true rfl)⟩ ⟨(Nat.le_of_ble_eq_true rfl), (Nat.le_of_ble_eq_true rfl)⟩ hl.1 rfl (lv_room (Nat.le_of_ble_eq_true rfl)) dX1_keepText_29 (fun u H locs h hP hD hS => ?_)
  obtain ⟨x29, rfl⟩ : ∃ z, z = u := ⟨_, rfl⟩
  have hP : va_P D vwCl (wT cI tA T ++ wS cB (fun _ : Nat => o0) x29) H := hP
  have hD : va_D A (wT cI tA T ++ wS cB (fun _ : Nat => o0) x29) := hD
  refine lv_pop hx hb dX1_keepText_32 rfl ?_
  refine lv_aload_n hx hb dX1_keepText_33 rfl (lv_at hl 0 rfl) ?_
  obtain ⟨k34, v34, hk34, hr34⟩ := zk_of hs0 sz_X1_62 (by decide) sr_X1_62
  refine va_ldcS hx hb hown (hr34 s hG.1) dX1_keepText_34 ?_
  refine z_WV (As := [.ref k34]) (rest := []) (wr := (List.filterMap (fun i => (wT cI tA T ++ wS cB (fun _ : Nat => o0) x29)[i]?) [0, 1, 2, 3, 4, 5, 6, 7, 8, 9, 10])) (wN := (fun u : SS => wT cI tA T ++ wS cB (fun _ : Nat => o0) u)) [11, 12] [0, 1, 2, 3, 4, 5, 6, 7, 8, 9, 10] [0, 1, 2, 3, 4, 5, 6, 7, 8, 9, 10, 11, 12] C hG hA hP hD hS (c_J4_append_15ec4 hfl hs0 D cI cB cJ (fun _ : Nat => o0) (fun i : Nat => [k34, v34].getD i 0) sx_X1_62.length (fun j : Nat => sx_X1_62.getD j 0) x29 hk34 h) q503 v_J4_append_15ec4 rfl rfl ⟨by decide, by decide, by decide⟩ (by decide) (fun _ => rfl) rfl rfl rfl ⟨(Nat.le_of_ble_eq_true rfl), (Nat.le_of_ble_eq_true rfl)⟩ ⟨(Nat.le_of_ble_eq_true rfl), (Nat.le_of_ble_eq_true rfl)⟩ hl.1 rfl (lv_room (Nat.le_of_ble_eq_true rfl)) dX1_keepText_36 (fun u H locs h hP hD hS => ?_)
  obtain ⟨x36, rfl⟩ : ∃ z, z = u := ⟨_, rfl⟩
  have hP : va_P D vwCl (wT cI tA T ++ wS cB (fun _ : Nat => o0) x36) H := hP
  have hD : va_D A (wT cI tA T ++ wS cB (fun _ : Nat => o0) x36) := hD
  refine lv_aload_n hx hb dX1_keepText_39 rfl (lv_at hl 1 rfl) ?_
  refine z_get C f_X1_15 hP (q0 := 0) rfl rfl dX1_keepText_40 ?_
  refine lv_iload_n hx hb dX1_keepText_43 rfl (lv_at hl 2 rfl) ?_
  obtain ⟨g9, h⟩ := h
  refine va_iald hx hb hK hP 2 0 rfl rfl g9 dX1_keepText_44 ?_
  refine z_WV (As := [.int (T.2.1 p0.toNatClampNeg)]) (rest := []) (wr := (List.filterMap (fun i => (wT cI tA T ++ wS cB (fun _ : Nat => o0) x36)[i]?) [0, 1, 2, 3, 4, 5, 6, 7, 8, 9, 10])) (wN := (fun u : SS => wT cI tA T ++ wS cB (fun _ : Nat => o0) u)) [11, 12] [0, 1, 2, 3, 4, 5, 6, 7, 8, 9, 10] [0, 1, 2, 3, 4, 5, 6, 7, 8, 9, 10, 11, 12] C hG hA hP hD hS (c_J4_append_bf812 hfl hs0 D cI cB cJ (fun _ : Nat => o0) x36 (T.2.1 p0.toNatClampNeg) h) q502 v_J4_append_bf812 rfl rfl ⟨by decide, by decide, by decide⟩ (by decide) (fun _ => rfl) rfl rfl rfl ⟨(Nat.le_of_ble_eq_true rfl), (Nat.le_of_ble_eq_true rfl)⟩ ⟨(Nat.le_of_ble_eq_true rfl), (Nat.le_of_ble_eq_true rfl)⟩ hl.1 rfl (lv_room (Nat.le_of_ble_eq_true rfl)) dX1_keepText_45 (fun u H locs h hP hD hS => ?_)
  obtain ⟨x45, rfl⟩ : ∃ z, z = u := ⟨_, rfl⟩
  have hP : va_P D vwCl (wT cI tA T ++ wS cB (fun _ : Nat => o0) x45) H := hP
  have hD : va_D A (wT cI tA T ++ wS cB (fun _ : Nat => o0) x45) := hD
  refine lv_pop hx hb dX1_keepText_48 rfl ?_
  refine lv_aload_n hx hb dX1_keepText_49 rfl (lv_at hl 1 rfl) ?_
  refine z_get C f_X1_30 hP (q0 := 0) rfl rfl dX1_keepText_50 ?_
  refine lv_iload_n hx hb dX1_keepText_53 rfl (lv_at hl 2 rfl) ?_
  obtain ⟨g9, h⟩ := h
  refine va_iald hx hb hK hP 7 0 rfl rfl g9 dX1_keepText_54 ?_
  refine lv_iconst (v := (-1)) hx hb dX1_keepText_55 (by decide) ?_
  refine lv_icmp_eq (tgt := 75) hx hb dX1_keepText_56 (by decide) (fun c56 => ?_) (fun c56 => ?_)
  · have h := h.1 c56
    refine lv_aload_n hx hb dX1_keepText_75 rfl (lv_at hl 0 rfl) ?_
    refine lv_bipush (v := 46) hx hb dX1_keepText_76 (by decide) ?_
    refine z_WV (As := [.int 46]) (rest := []) (wr := (List.filterMap (fun i => (wT cI tA T ++ wS cB (fun _ : Nat => o0) x45)[i]?) [0, 1, 2, 3, 4, 5, 6, 7, 8, 9, 10])) (wN := (fun u : SS => wT cI tA T ++ wS cB (fun _ : Nat => o0) u)) [11, 12] [0, 1, 2, 3, 4, 5, 6, 7, 8, 9, 10] [0, 1, 2, 3, 4, 5, 6, 7, 8, 9, 10, 11, 12] C hG hA hP hD hS (c_J4_append_cf468 hfl hs0 D cI cB cJ (fun _ : Nat => o0) x45 46 h) q504 v_J4_append_cf468 rfl rfl ⟨by decide, by decide, by decide⟩ (by decide) (fun _ => rfl) rfl rfl rfl ⟨(Nat.le_of_ble_eq_true rfl), (Nat.le_of_ble_eq_true rfl)⟩ ⟨(Nat.le_of_ble_eq_true rfl), (Nat.le_of_ble_eq_true rfl)⟩ hl.1 rfl (lv_room (Nat.le_of_ble_eq_true rfl)) dX1_keepText_78 (fun u H locs h hP hD hS => ?_)
    obtain ⟨x78, rfl⟩ : ∃ z, z = u := ⟨_, rfl⟩
    have hP : va_P D vwCl (wT cI tA T ++ wS cB (fun _ : Nat => o0) x78) H := hP
    have hD : va_D A (wT cI tA T ++ wS cB (fun _ : Nat => o0) x78) := hD
    refine lv_pop hx hb dX1_keepText_81 rfl ?_
    refine lv_aload_n hx hb dX1_keepText_82 rfl (lv_at hl 1 rfl) ?_
    refine z_get C f_X1_36 hP (q0 := 0) rfl rfl dX1_keepText_83 ?_
    refine lv_iload_n hx hb dX1_keepText_86 rfl (lv_at hl 2 rfl) ?_
    refine lv_aload_n hx hb dX1_keepText_87 rfl (lv_at hl 0 rfl) ?_
    refine z_RV (As := []) (rest := [.int p0, .ref (tA 9)]) [11, 12] C (hG.kept hS.1 hS.2.1).none hP (c_J4_length_8abf5 hfl hs0 D cI cB cJ (fun _ : Nat => o0) x78 h) q492 v_J4_length_8abf5 rfl rfl rfl rfl ⟨(Nat.le_of_ble_eq_true rfl), (Nat.le_of_ble_eq_true rfl)⟩ ⟨(Nat.le_of_ble_eq_true rfl), (Nat.le_of_ble_eq_true rfl)⟩ hl.1 rfl (lv_room (Nat.le_of_ble_eq_true rfl)) dX1_keepText_88 (fun r88 h => ?_)
    obtain ⟨g9, h⟩ := h
    refine va_iast hx hb hK hP hD hS 9 0 rfl rfl g9 dX1_keepText_91 (fun H locs hP hD hS => ?_)
    have hP : va_P D vwCl (wT cI tA (T.1, T.2.1, T.2.2.1, T.2.2.2.1, T.2.2.2.2.1, T.2.2.2.2.2.1, T.2.2.2.2.2.2.1, T.2.2.2.2.2.2.2.1, (upd T.2.2.2.2.2.2.2.2.1 p0.toNatClampNeg r88), T.2.2.2.2.2.2.2.2.2.1, T.2.2.2.2.2.2.2.2.2.2) ++ wS cB (fun _ : Nat => o0) x78) H := hP
    have hD : va_D A (wT cI tA (T.1, T.2.1, T.2.2.1, T.2.2.2.1, T.2.2.2.2.1, T.2.2.2.2.2.1, T.2.2.2.2.2.2.1, T.2.2.2.2.2.2.2.1, (upd T.2.2.2.2.2.2.2.2.1 p0.toNatClampNeg r88), T.2.2.2.2.2.2.2.2.2.1, T.2.2.2.2.2.2.2.2.2.2) ++ wS cB (fun _ : Nat => o0) x78) := hD
    refine lv_aload_n hx hb dX1_keepText_92 rfl (lv_at hl 1 rfl) ?_
    refine z_get C f_X1_39 hP (q0 := 0) rfl rfl dX1_keepText_93 ?_
    refine lv_iload_n hx hb dX1_keepText_96 rfl (lv_at hl 2 rfl) ?_
    refine lv_aload_n hx hb dX1_keepText_97 rfl (lv_at hl 0 rfl) ?_
    refine z_RS (As := [.ref o0]) (rest := [.int p0, .ref (tA 10)]) [11, 12] C (hG.kept hS.1 hS.2.1).none hP (c_X1_sealFor hfl hs0 D cI cB cJ (fun _ : Nat => o0) x78 h) q505 v_X1_sealFor rfl rfl ⟨(Nat.le_of_ble_eq_true rfl), (Nat.le_of_ble_eq_true rfl)⟩ ⟨(Nat.le_of_ble_eq_true rfl), (Nat.le_of_ble_eq_true rfl)⟩ hl.1 rfl (lv_room (Nat.le_of_ble_eq_true rfl)) dX1_keepText_98 (fun r98 h => ?_)
    obtain ⟨g9, h⟩ := h
    refine va_iast hx hb hK hP hD hS 10 0 rfl rfl g9 dX1_keepText_101 (fun H locs hP hD hS => ?_)
    have hP : va_P D vwCl (wT cI tA (T.1, T.2.1, T.2.2.1, T.2.2.2.1, T.2.2.2.2.1, T.2.2.2.2.2.1, T.2.2.2.2.2.2.1, T.2.2.2.2.2.2.2.1, (upd T.2.2.2.2.2.2.2.2.1 p0.toNatClampNeg r88), (upd T.2.2.2.2.2.2.2.2.2.1 p0.toNatClampNeg r98), T.2.2.2.2.2.2.2.2.2.2) ++ wS cB (fun _ : Nat => o0) x78) H := hP
    have hD : va_D A (wT cI tA (T.1, T.2.1, T.2.2.1, T.2.2.2.1, T.2.2.2.2.1, T.2.2.2.2.2.1, T.2.2.2.2.2.2.1, T.2.2.2.2.2.2.2.1, (upd T.2.2.2.2.2.2.2.2.1 p0.toNatClampNeg r88), (upd T.2.2.2.2.2.2.2.2.2.1 p0.toNatClampNeg r98), T.2.2.2.2.2.2.2.2.2.2) ++ wS cB (fun _ : Nat => o0) x78) := hD
    have hP : va_P D vwCl (wT cI tA (T.1, T.2.1, T.2.2.1, T.2.2.2.1, T.2.2.2.2.1, T.2.2.2.2.2.1, T.2.2.2.2.2.2.1, T.2.2.2.2.2.2.2.1, (upd T.2.2.2.2.2.2.2.2.1 p0.toNatClampNeg r88), (upd T.2.2.2.2.2.2.2.2.2.1 p0.toNatClampNeg r98), T.2.2.2.2.2.2.2.2.2.2)) H := hP.sub [0, 1, 2, 3, 4, 5, 6, 7, 8, 9, 10] (z_fm _ _ rfl)
    have hD : va_D A (wT cI tA (T.1, T.2.1, T.2.2.1, T.2.2.2.1, T.2.2.2.2.1, T.2.2.2.2.2.1, T.2.2.2.2.2.2.1, T.2.2.2.2.2.2.2.1, (upd T.2.2.2.2.2.2.2.2.1 p0.toNatClampNeg r88), (upd T.2.2.2.2.2.2.2.2.2.1 p0.toNatClampNeg r98), T.2.2.2.2.2.2.2.2.2.2)) := hD.sub [0, 1, 2, 3, 4, 5, 6, 7, 8, 9, 10] (by decide) rfl
    exact zW_vret C (T.1, T.2.1, T.2.2.1, T.2.2.2.1, T.2.2.2.2.1, T.2.2.2.2.2.1, T.2.2.2.2.2.2.1, T.2.2.2.2.2.2.2.1, (upd T.2.2.2.2.2.2.2.2.1 p0.toNatClampNeg r88), (upd T.2.2.2.2.2.2.2.2.2.1 p0.toNatClampNeg r98), T.2.2.2.2.2.2.2.2.2.2) rfl h hP hD hS (Nat.le_of_ble_eq_true rfl) (Nat.le_of_ble_eq_true rfl) dX1_keepText_102
  · have h := h.2 c56
    refine lv_aload_n hx hb dX1_keepText_59 rfl (lv_at hl 0 rfl) ?_
    obtain ⟨k60, v60, hk60, hr60⟩ := zk_of hs0 sz_X1_64 (by decide) sr_X1_64
    refine va_ldcS hx hb hown (hr60 s hG.1) dX1_keepText_60 ?_
    refine z_WV (As := [.ref k60]) (rest := []) (wr := (List.filterMap (fun i => (wT cI tA T ++ wS cB (fun _ : Nat => o0) x45)[i]?) [0, 1, 2, 3, 4, 5, 6, 7, 8, 9, 10])) (wN := (fun u : SS => wT cI tA T ++ wS cB (fun _ : Nat => o0) u)) [11, 12] [0, 1, 2, 3, 4, 5, 6, 7, 8, 9, 10] [0, 1, 2, 3, 4, 5, 6, 7, 8, 9, 10, 11, 12] C hG hA hP hD hS (c_J4_append_15ec4 hfl hs0 D cI cB cJ (fun _ : Nat => o0) (fun i : Nat => [k60, v60].getD i 0) sx_X1_64.length (fun j : Nat => sx_X1_64.getD j 0) x45 hk60 h) q503 v_J4_append_15ec4 rfl rfl ⟨by decide, by decide, by decide⟩ (by decide) (fun _ => rfl) rfl rfl rfl ⟨(Nat.le_of_ble_eq_true rfl), (Nat.le_of_ble_eq_true rfl)⟩ ⟨(Nat.le_of_ble_eq_true rfl), (Nat.le_of_ble_eq_true rfl)⟩ hl.1 rfl (lv_room (Nat.le_of_ble_eq_true rfl)) dX1_keepText_62 (fun u H locs h hP hD hS => ?_)
    obtain ⟨x62, rfl⟩ : ∃ z, z = u := ⟨_, rfl⟩
    have hP : va_P D vwCl (wT cI tA T ++ wS cB (fun _ : Nat => o0) x62) H := hP
    have hD : va_D A (wT cI tA T ++ wS cB (fun _ : Nat => o0) x62) := hD
    refine lv_aload_n hx hb dX1_keepText_65 rfl (lv_at hl 1 rfl) ?_
    refine z_get C f_X1_30 hP (q0 := 0) rfl rfl dX1_keepText_66 ?_
    refine lv_iload_n hx hb dX1_keepText_69 rfl (lv_at hl 2 rfl) ?_
    obtain ⟨g9, h⟩ := h
    refine va_iald hx hb hK hP 7 0 rfl rfl g9 dX1_keepText_70 ?_
    refine z_WV (As := [.int (T.2.2.2.2.2.2.1 p0.toNatClampNeg)]) (rest := []) (wr := (List.filterMap (fun i => (wT cI tA T ++ wS cB (fun _ : Nat => o0) x62)[i]?) [0, 1, 2, 3, 4, 5, 6, 7, 8, 9, 10])) (wN := (fun u : SS => wT cI tA T ++ wS cB (fun _ : Nat => o0) u)) [11, 12] [0, 1, 2, 3, 4, 5, 6, 7, 8, 9, 10] [0, 1, 2, 3, 4, 5, 6, 7, 8, 9, 10, 11, 12] C hG hA hP hD hS (c_J4_append_bf812 hfl hs0 D cI cB cJ (fun _ : Nat => o0) x62 (T.2.2.2.2.2.2.1 p0.toNatClampNeg) h) q502 v_J4_append_bf812 rfl rfl ⟨by decide, by decide, by decide⟩ (by decide) (fun _ => rfl) rfl rfl rfl ⟨(Nat.le_of_ble_eq_true rfl), (Nat.le_of_ble_eq_true rfl)⟩ ⟨(Nat.le_of_ble_eq_true rfl), (Nat.le_of_ble_eq_true rfl)⟩ hl.1 rfl (lv_room (Nat.le_of_ble_eq_true rfl)) dX1_keepText_71 (fun u H locs h hP hD hS => ?_)
    obtain ⟨x71, rfl⟩ : ∃ z, z = u := ⟨_, rfl⟩
    have hP : va_P D vwCl (wT cI tA T ++ wS cB (fun _ : Nat => o0) x71) H := hP
    have hD : va_D A (wT cI tA T ++ wS cB (fun _ : Nat => o0) x71) := hD
    refine lv_pop hx hb dX1_keepText_74 rfl ?_
    refine lv_aload_n hx hb dX1_keepText_75 rfl (lv_at hl 0 rfl) ?_
    refine lv_bipush (v := 46) hx hb dX1_keepText_76 (by decide) ?_
    refine z_WV (As := [.int 46]) (rest := []) (wr := (List.filterMap (fun i => (wT cI tA T ++ wS cB (fun _ : Nat => o0) x71)[i]?) [0, 1, 2, 3, 4, 5, 6, 7, 8, 9, 10])) (wN := (fun u : SS => wT cI tA T ++ wS cB (fun _ : Nat => o0) u)) [11, 12] [0, 1, 2, 3, 4, 5, 6, 7, 8, 9, 10] [0, 1, 2, 3, 4, 5, 6, 7, 8, 9, 10, 11, 12] C hG hA hP hD hS (c_J4_append_cf468 hfl hs0 D cI cB cJ (fun _ : Nat => o0) x71 46 h) q504 v_J4_append_cf468 rfl rfl ⟨by decide, by decide, by decide⟩ (by decide) (fun _ => rfl) rfl rfl rfl ⟨(Nat.le_of_ble_eq_true rfl), (Nat.le_of_ble_eq_true rfl)⟩ ⟨(Nat.le_of_ble_eq_true rfl), (Nat.le_of_ble_eq_true rfl)⟩ hl.1 rfl (lv_room (Nat.le_of_ble_eq_true rfl)) dX1_keepText_78 (fun u H locs h hP hD hS => ?_)
    obtain ⟨x78, rfl⟩ : ∃ z, z = u := ⟨_, rfl⟩
    have hP : va_P D vwCl (wT cI tA T ++ wS cB (fun _ : Nat => o0) x78) H := hP
    have hD : va_D A (wT cI tA T ++ wS cB (fun _ : Nat => o0) x78) := hD
    refine lv_pop hx hb dX1_keepText_81 rfl ?_
    refine lv_aload_n hx hb dX1_keepText_82 rfl (lv_at hl 1 rfl) ?_
    refine z_get C f_X1_36 hP (q0 := 0) rfl rfl dX1_keepText_83 ?_
    refine lv_iload_n hx hb dX1_keepText_86 rfl (lv_at hl 2 rfl) ?_
    refine lv_aload_n hx hb dX1_keepText_87 rfl (lv_at hl 0 rfl) ?_
    refine z_RV (As := []) (rest := [.int p0, .ref (tA 9)]) [11, 12] C (hG.kept hS.1 hS.2.1).none hP (c_J4_length_8abf5 hfl hs0 D cI cB cJ (fun _ : Nat => o0) x78 h) q492 v_J4_length_8abf5 rfl rfl rfl rfl ⟨(Nat.le_of_ble_eq_true rfl), (Nat.le_of_ble_eq_true rfl)⟩ ⟨(Nat.le_of_ble_eq_true rfl), (Nat.le_of_ble_eq_true rfl)⟩ hl.1 rfl (lv_room (Nat.le_of_ble_eq_true rfl)) dX1_keepText_88 (fun r88 h => ?_)
    obtain ⟨g9, h⟩ := h
    refine va_iast hx hb hK hP hD hS 9 0 rfl rfl g9 dX1_keepText_91 (fun H locs hP hD hS => ?_)
    have hP : va_P D vwCl (wT cI tA (T.1, T.2.1, T.2.2.1, T.2.2.2.1, T.2.2.2.2.1, T.2.2.2.2.2.1, T.2.2.2.2.2.2.1, T.2.2.2.2.2.2.2.1, (upd T.2.2.2.2.2.2.2.2.1 p0.toNatClampNeg r88), T.2.2.2.2.2.2.2.2.2.1, T.2.2.2.2.2.2.2.2.2.2) ++ wS cB (fun _ : Nat => o0) x78) H := hP
    have hD : va_D A (wT cI tA (T.1, T.2.1, T.2.2.1, T.2.2.2.1, T.2.2.2.2.1, T.2.2.2.2.2.1, T.2.2.2.2.2.2.1, T.2.2.2.2.2.2.2.1, (upd T.2.2.2.2.2.2.2.2.1 p0.toNatClampNeg r88), T.2.2.2.2.2.2.2.2.2.1, T.2.2.2.2.2.2.2.2.2.2) ++ wS cB (fun _ : Nat => o0) x78) := hD
    refine lv_aload_n hx hb dX1_keepText_92 rfl (lv_at hl 1 rfl) ?_
    refine z_get C f_X1_39 hP (q0 := 0) rfl rfl dX1_keepText_93 ?_
    refine lv_iload_n hx hb dX1_keepText_96 rfl (lv_at hl 2 rfl) ?_
    refine lv_aload_n hx hb dX1_keepText_97 rfl (lv_at hl 0 rfl) ?_
    refine z_RS (As := [.ref o0]) (rest := [.int p0, .ref (tA 10)]) [11, 12] C (hG.kept hS.1 hS.2.1).none hP (c_X1_sealFor hfl hs0 D cI cB cJ (fun _ : Nat => o0) x78 h) q505 v_X1_sealFor rfl rfl ⟨(Nat.le_of_ble_eq_true rfl), (Nat.le_of_ble_eq_true rfl)⟩ ⟨(Nat.le_of_ble_eq_true rfl), (Nat.le_of_ble_eq_true rfl)⟩ hl.1 rfl (lv_room (Nat.le_of_ble_eq_true rfl)) dX1_keepText_98 (fun r98 h => ?_)
    obtain ⟨g9, h⟩ := h
    refine va_iast hx hb hK hP hD hS 10 0 rfl rfl g9 dX1_keepText_101 (fun H locs hP hD hS => ?_)
    have hP : va_P D vwCl (wT cI tA (T.1, T.2.1, T.2.2.1, T.2.2.2.1, T.2.2.2.2.1, T.2.2.2.2.2.1, T.2.2.2.2.2.2.1, T.2.2.2.2.2.2.2.1, (upd T.2.2.2.2.2.2.2.2.1 p0.toNatClampNeg r88), (upd T.2.2.2.2.2.2.2.2.2.1 p0.toNatClampNeg r98), T.2.2.2.2.2.2.2.2.2.2) ++ wS cB (fun _ : Nat => o0) x78) H := hP
    have hD : va_D A (wT cI tA (T.1, T.2.1, T.2.2.1, T.2.2.2.1, T.2.2.2.2.1, T.2.2.2.2.2.1, T.2.2.2.2.2.2.1, T.2.2.2.2.2.2.2.1, (upd T.2.2.2.2.2.2.2.2.1 p0.toNatClampNeg r88), (upd T.2.2.2.2.2.2.2.2.2.1 p0.toNatClampNeg r98), T.2.2.2.2.2.2.2.2.2.2) ++ wS cB (fun _ : Nat => o0) x78) := hD
    have hP : va_P D vwCl (wT cI tA (T.1, T.2.1, T.2.2.1, T.2.2.2.1, T.2.2.2.2.1, T.2.2.2.2.2.1, T.2.2.2.2.2.2.1, T.2.2.2.2.2.2.2.1, (upd T.2.2.2.2.2.2.2.2.1 p0.toNatClampNeg r88), (upd T.2.2.2.2.2.2.2.2.2.1 p0.toNatClampNeg r98), T.2.2.2.2.2.2.2.2.2.2)) H := hP.sub [0, 1, 2, 3, 4, 5, 6, 7, 8, 9, 10] (z_fm _ _ rfl)
    have hD : va_D A (wT cI tA (T.1, T.2.1, T.2.2.1, T.2.2.2.1, T.2.2.2.2.1, T.2.2.2.2.2.1, T.2.2.2.2.2.2.1, T.2.2.2.2.2.2.2.1, (upd T.2.2.2.2.2.2.2.2.1 p0.toNatClampNeg r88), (upd T.2.2.2.2.2.2.2.2.2.1 p0.toNatClampNeg r98), T.2.2.2.2.2.2.2.2.2.2)) := hD.sub [0, 1, 2, 3, 4, 5, 6, 7, 8, 9, 10] (by decide) rfl
    exact zW_vret C (T.1, T.2.1, T.2.2.1, T.2.2.2.1, T.2.2.2.2.1, T.2.2.2.2.2.1, T.2.2.2.2.2.2.1, T.2.2.2.2.2.2.2.1, (upd T.2.2.2.2.2.2.2.2.1 p0.toNatClampNeg r88), (upd T.2.2.2.2.2.2.2.2.2.1 p0.toNatClampNeg r98), T.2.2.2.2.2.2.2.2.2.2) rfl h hP hD hS (Nat.le_of_ble_eq_true rfl) (Nat.le_of_ble_eq_true rfl) dX1_keepText_102
def wpX1_add_b91 (post : Int32 → TS → Prop) (p0 : Int32) (p1 : Int32) (p2 : Int32) (p3 : Int32) (p4 : Int32) (p5 : Int32) (p6 : Int32) (x8 : Int32) (y1 : Int32) (y2 : Int32) (T_ : TS) : Prop := vp_in y1 20 ∧ (wpX1_keepText (fun T95 => post x8 (T95.1, T95.2.1, T95.2.2.1, T95.2.2.2.1, T95.2.2.2.2.1, T95.2.2.2.2.2.1, T95.2.2.2.2.2.2.1, T95.2.2.2.2.2.2.2.1, T95.2.2.2.2.2.2.2.2.1, T95.2.2.2.2.2.2.2.2.2.1, (T95.2.2.2.2.2.2.2.2.2.2 + 1))) (T_.1, T_.2.1, T_.2.2.1, T_.2.2.2.1, T_.2.2.2.2.1, T_.2.2.2.2.2.1, T_.2.2.2.2.2.2.1, (upd T_.2.2.2.2.2.2.2.1 y1.toNatClampNeg y2), T_.2.2.2.2.2.2.2.2.1, T_.2.2.2.2.2.2.2.2.2.1, T_.2.2.2.2.2.2.2.2.2.2) x8)
def wpX1_add (post : Int32 → TS → Prop) (T : TS) (p0 : Int32) (p1 : Int32) (p2 : Int32) (p3 : Int32) (p4 : Int32) (p5 : Int32) (p6 : Int32) : Prop := vp_in T.2.2.2.2.2.2.2.2.2.2 20 ∧ (vp_in T.2.2.2.2.2.2.2.2.2.2 20 ∧ (vp_in T.2.2.2.2.2.2.2.2.2.2 20 ∧ (vp_in T.2.2.2.2.2.2.2.2.2.2 20 ∧ (vp_in T.2.2.2.2.2.2.2.2.2.2 20 ∧ (vp_in T.2.2.2.2.2.2.2.2.2.2 20 ∧ (vp_in T.2.2.2.2.2.2.2.2.2.2 20 ∧ ((p6 = (-1) → wpX1_add_b91 post p0 p1 p2 p3 p4 p5 p6 T.2.2.2.2.2.2.2.2.2.2 T.2.2.2.2.2.2.2.2.2.2 0 ((upd T.1 T.2.2.2.2.2.2.2.2.2.2.toNatClampNeg p0), (upd T.2.1 T.2.2.2.2.2.2.2.2.2.2.toNatClampNeg p1), (upd T.2.2.1 T.2.2.2.2.2.2.2.2.2.2.toNatClampNeg p2), (upd T.2.2.2.1 T.2.2.2.2.2.2.2.2.2.2.toNatClampNeg p3), (upd T.2.2.2.2.1 T.2.2.2.2.2.2.2.2.2.2.toNatClampNeg p4), (upd T.2.2.2.2.2.1 T.2.2.2.2.2.2.2.2.2.2.toNatClampNeg p5), (upd T.2.2.2.2.2.2.1 T.2.2.2.2.2.2.2.2.2.2.toNatClampNeg p6), T.2.2.2.2.2.2.2.1, T.2.2.2.2.2.2.2.2.1, T.2.2.2.2.2.2.2.2.2.1, T.2.2.2.2.2.2.2.2.2.2)) ∧ (¬ p6 = (-1) → vp_in p6 20 ∧ (wpX1_add_b91 post p0 p1 p2 p3 p4 p5 p6 T.2.2.2.2.2.2.2.2.2.2 T.2.2.2.2.2.2.2.2.2.2 ((T.2.2.2.2.2.2.2.1 p6.toNatClampNeg) + 1) ((upd T.1 T.2.2.2.2.2.2.2.2.2.2.toNatClampNeg p0), (upd T.2.1 T.2.2.2.2.2.2.2.2.2.2.toNatClampNeg p1), (upd T.2.2.1 T.2.2.2.2.2.2.2.2.2.2.toNatClampNeg p2), (upd T.2.2.2.1 T.2.2.2.2.2.2.2.2.2.2.toNatClampNeg p3), (upd T.2.2.2.2.1 T.2.2.2.2.2.2.2.2.2.2.toNatClampNeg p4), (upd T.2.2.2.2.2.1 T.2.2.2.2.2.2.2.2.2.2.toNatClampNeg p5), (upd T.2.2.2.2.2.2.1 T.2.2.2.2.2.2.2.2.2.2.toNatClampNeg p6), T.2.2.2.2.2.2.2.1, T.2.2.2.2.2.2.2.2.1, T.2.2.2.2.2.2.2.2.2.1, T.2.2.2.2.2.2.2.2.2.2))))))))))
set_option maxHeartbeats 4000000 in
set_option maxRecDepth 100000 in
theorem c_X1_add {l : Launch} (hfl : l.stackTraces = false) {s0 : State} (hs0 : zS s0) (D : va_G) (cI cB cJ : ClassId) (tA : Nat → Nat) (T : TS) (p0 : Int32) (p1 : Int32) (p2 : Int32) (p3 : Int32) (p4 : Int32) (p5 : Int32) (p6 : Int32) {post : Int32 → TS → Prop} (h : wpX1_add post T p0 p1 p2 p3 p4 p5 p6) : zW s0 l D (zty cI cB cJ) yX1_add cX1_add 9 (some .int) 8 10 292 [.ref (tA 0), .int p0, .int p1, .int p2, .int p3, .int p4, .int p5, .int p6] (wT cI tA T) (fun u : Int32 × TS => some (Value.int u.1)) (fun u : Int32 × TS => post u.1 u.2) (fun u : Int32 × TS => wT cI tA u.2) := by
  refine zW_intro (by decide +kernel) (Nat.le_of_ble_eq_true rfl) ?_
  intro p e s m below meth c A C hnm hA hG hP hD hS ls hl
  have C : zC D (zty cI cB cJ) p s m ([.ref (tA 0), .int p0, .int p1, .int p2, .int p3, .int p4, .int p5, .int p6] : List Value).toArray meth c cX1_add RX1 (some .int) 9 := C
  have hx := C.1
  have hb := C.2.1
  have hts := C.2.2.1
  have hown := C.2.2.2.1
  have hml := C.2.2.2.2.2.1
  have hK := C.2.2.2.2.2.2.2
  have hl : lv_has ls 9 [(0, .ref (tA 0)), (1, .int p0), (2, .int p1), (3, .int p2), (4, .int p3), (5, .int p4), (6, .int p5), (7, .int p6)] := hl
  have hP : va_P D vwCl (wT cI tA T) s.heap := hP
  have hD : va_D A (wT cI tA T) := hD
  have k91 : ∀ (x8 : Int32) (y1 : Int32) (y2 : Int32) (T_ : TS) (H : Heap) (locs : List Loc), va_P D vwCl (wT cI tA T_) H → va_D A (wT cI tA T_) → va_S A s.heap H locs → ∀ (ls : Array Slot), lv_has ls 9 [(0, .ref (tA 0)), (8, .int x8)] → wpX1_add_b91 post p0 p1 p2 p3 p4 p5 p6 x8 y1 y2 T_ → W p l e (zr 8 10 292) s m ([.ref (tA 0), .int p0, .int p1, .int p2, .int p3, .int p4, .int p5, .int p6] : List Value).toArray below meth c H locs 0 0 (MQ below (zQ D (fun u : Int32 × TS => some (Value.int u.1)) (fun u : Int32 × TS => post u.1 u.2) (fun u : Int32 × TS => wT cI tA u.2) A) ([.ref (tA 0), .int p0, .int p1, .int p2, .int p3, .int p4, .int p5, .int p6] : List Value).toArray s 10 292 A) (F0 m 91 ls [.int y2, .int y1, .ref (tA 8)]) := by
    intro x8 y1 y2 T_ H locs hP hD hS ls hl h
    unfold wpX1_add_b91 at h
    obtain ⟨g9, h⟩ := h
    refine va_iast hx hb hK hP hD hS 8 0 rfl rfl g9 dX1_add_91 (fun H locs hP hD hS => ?_)
    have hP : va_P D vwCl (wT cI tA (T_.1, T_.2.1, T_.2.2.1, T_.2.2.2.1, T_.2.2.2.2.1, T_.2.2.2.2.2.1, T_.2.2.2.2.2.2.1, (upd T_.2.2.2.2.2.2.2.1 y1.toNatClampNeg y2), T_.2.2.2.2.2.2.2.2.1, T_.2.2.2.2.2.2.2.2.2.1, T_.2.2.2.2.2.2.2.2.2.2)) H := hP
    have hD : va_D A (wT cI tA (T_.1, T_.2.1, T_.2.2.1, T_.2.2.2.1, T_.2.2.2.2.1, T_.2.2.2.2.2.1, T_.2.2.2.2.2.2.1, (upd T_.2.2.2.2.2.2.2.1 y1.toNatClampNeg y2), T_.2.2.2.2.2.2.2.2.1, T_.2.2.2.2.2.2.2.2.2.1, T_.2.2.2.2.2.2.2.2.2.2)) := hD
    refine lv_aload_n hx hb dX1_add_92 rfl (lv_at hl 0 rfl) ?_
    refine lv_iload hx hb dX1_add_93 (lv_at hl 1 rfl) ?_
    refine z_WV (As := [.int x8]) (rest := []) (wr := ([] : va_W)) (wN := (fun u : TS => wT cI tA u)) [0, 1, 2, 3, 4, 5, 6, 7, 8, 9, 10] [] [0, 1, 2, 3, 4, 5, 6, 7, 8, 9, 10] C hG hA hP hD hS (c_X1_keepText hfl hs0 D cI cB cJ tA (T_.1, T_.2.1, T_.2.2.1, T_.2.2.2.1, T_.2.2.2.2.1, T_.2.2.2.2.2.1, T_.2.2.2.2.2.2.1, (upd T_.2.2.2.2.2.2.2.1 y1.toNatClampNeg y2), T_.2.2.2.2.2.2.2.2.1, T_.2.2.2.2.2.2.2.2.2.1, T_.2.2.2.2.2.2.2.2.2.2) x8 h) q518 v_X1_keepText rfl rfl ⟨by decide, by decide, by decide⟩ (by decide) (fun _ => rfl) rfl rfl rfl ⟨(Nat.le_of_ble_eq_true rfl), (Nat.le_of_ble_eq_true rfl)⟩ ⟨(Nat.le_of_ble_eq_true rfl), (Nat.le_of_ble_eq_true rfl)⟩ hl.1 rfl (lv_room (Nat.le_of_ble_eq_true rfl)) dX1_add_95 (fun u H locs h hP hD hS => ?_)
    obtain ⟨T95, rfl⟩ : ∃ z, z = u := ⟨_, rfl⟩
    have hP : va_P D vwCl (wT cI tA T95) H := hP
    have hD : va_D A (wT cI tA T95) := hD
    refine lv_aload_n hx hb dX1_add_98 rfl (lv_at hl 0 rfl) ?_
    refine lv_dup hx hb dX1_add_99 rfl ?_
    refine z_get C f_X1_42 hP (q0 := 0) rfl rfl dX1_add_100 ?_
    refine lv_iconst (v := 1) hx hb dX1_add_103 (by decide) ?_
    refine lv_iadd hx hb dX1_add_104 ?_
    refine z_put C f_X1_42 zt_X1 rfl rfl rfl rfl hP hD hS (q0 := 0) rfl (Nat.le_of_ble_eq_true rfl) dX1_add_105 (fun H locs hP hD hS => ?_)
    have hP : va_P D vwCl (wT cI tA (T95.1, T95.2.1, T95.2.2.1, T95.2.2.2.1, T95.2.2.2.2.1, T95.2.2.2.2.2.1, T95.2.2.2.2.2.2.1, T95.2.2.2.2.2.2.2.1, T95.2.2.2.2.2.2.2.2.1, T95.2.2.2.2.2.2.2.2.2.1, (T95.2.2.2.2.2.2.2.2.2.2 + 1))) H := hP
    have hD : va_D A (wT cI tA (T95.1, T95.2.1, T95.2.2.1, T95.2.2.2.1, T95.2.2.2.2.1, T95.2.2.2.2.2.1, T95.2.2.2.2.2.2.1, T95.2.2.2.2.2.2.2.1, T95.2.2.2.2.2.2.2.2.1, T95.2.2.2.2.2.2.2.2.2.1, (T95.2.2.2.2.2.2.2.2.2.2 + 1))) := hD
    refine lv_iload hx hb dX1_add_108 (lv_at hl 1 rfl) ?_
    exact zW_iret C (x8, (T95.1, T95.2.1, T95.2.2.1, T95.2.2.2.1, T95.2.2.2.2.1, T95.2.2.2.2.2.1, T95.2.2.2.2.2.2.1, T95.2.2.2.2.2.2.2.1, T95.2.2.2.2.2.2.2.2.1, T95.2.2.2.2.2.2.2.2.2.1, (T95.2.2.2.2.2.2.2.2.2.2 + 1))) rfl h hP hD hS (Nat.le_of_ble_eq_true rfl) (Nat.le_of_ble_eq_true rfl) dX1_add_110
  unfold wpX1_add at h
  refine lv_aload_n hx hb dX1_add_0 rfl (lv_at hl 0 rfl) ?_
  refine z_get C f_X1_42 hP (q0 := 0) rfl rfl dX1_add_1 ?_
  refine lv_istore (lv' := [(8, .int T.2.2.2.2.2.2.2.2.2.2), (0, .ref (tA 0)), (1, .int p0), (2, .int p1), (3, .int p2), (4, .int p3), (5, .int p4), (6, .int p5), (7, .int p6)]) hx hb dX1_add_4 hl (by decide) rfl (fun ls hl => ?_)
  refine lv_aload_n hx hb dX1_add_6 rfl (lv_at hl 1 rfl) ?_
  refine z_get C f_X1_9 hP (q0 := 0) rfl rfl dX1_add_7 ?_
  refine lv_iload hx hb dX1_add_10 (lv_at hl 0 rfl) ?_
  refine lv_iload_n hx hb dX1_add_12 rfl (lv_at hl 2 rfl) ?_
  obtain ⟨g9, h⟩ := h
  refine va_iast hx hb hK hP hD hS 1 0 rfl rfl g9 dX1_add_13 (fun H locs hP hD hS => ?_)
  have hP : va_P D vwCl (wT cI tA ((upd T.1 T.2.2.2.2.2.2.2.2.2.2.toNatClampNeg p0), T.2.1, T.2.2.1, T.2.2.2.1, T.2.2.2.2.1, T.2.2.2.2.2.1, T.2.2.2.2.2.2.1, T.2.2.2.2.2.2.2.1, T.2.2.2.2.2.2.2.2.1, T.2.2.2.2.2.2.2.2.2.1, T.2.2.2.2.2.2.2.2.2.2)) H := hP
  have hD : va_D A (wT cI tA ((upd T.1 T.2.2.2.2.2.2.2.2.2.2.toNatClampNeg p0), T.2.1, T.2.2.1, T.2.2.2.1, T.2.2.2.2.1, T.2.2.2.2.2.1, T.2.2.2.2.2.2.1, T.2.2.2.2.2.2.2.1, T.2.2.2.2.2.2.2.2.1, T.2.2.2.2.2.2.2.2.2.1, T.2.2.2.2.2.2.2.2.2.2)) := hD
  refine lv_aload_n hx hb dX1_add_14 rfl (lv_at hl 1 rfl) ?_
  refine z_get C f_X1_15 hP (q0 := 0) rfl rfl dX1_add_15 ?_
  refine lv_iload hx hb dX1_add_18 (lv_at hl 0 rfl) ?_
  refine lv_iload_n hx hb dX1_add_20 rfl (lv_at hl 3 rfl) ?_
  obtain ⟨g9, h⟩ := h
  refine va_iast hx hb hK hP hD hS 2 0 rfl rfl g9 dX1_add_21 (fun H locs hP hD hS => ?_)
  have hP : va_P D vwCl (wT cI tA ((upd T.1 T.2.2.2.2.2.2.2.2.2.2.toNatClampNeg p0), (upd T.2.1 T.2.2.2.2.2.2.2.2.2.2.toNatClampNeg p1), T.2.2.1, T.2.2.2.1, T.2.2.2.2.1, T.2.2.2.2.2.1, T.2.2.2.2.2.2.1, T.2.2.2.2.2.2.2.1, T.2.2.2.2.2.2.2.2.1, T.2.2.2.2.2.2.2.2.2.1, T.2.2.2.2.2.2.2.2.2.2)) H := hP
  have hD : va_D A (wT cI tA ((upd T.1 T.2.2.2.2.2.2.2.2.2.2.toNatClampNeg p0), (upd T.2.1 T.2.2.2.2.2.2.2.2.2.2.toNatClampNeg p1), T.2.2.1, T.2.2.2.1, T.2.2.2.2.1, T.2.2.2.2.2.1, T.2.2.2.2.2.2.1, T.2.2.2.2.2.2.2.1, T.2.2.2.2.2.2.2.2.1, T.2.2.2.2.2.2.2.2.2.1, T.2.2.2.2.2.2.2.2.2.2)) := hD
  refine lv_aload_n hx hb dX1_add_22 rfl (lv_at hl 1 rfl) ?_
  refine z_get C f_X1_18 hP (q0 := 0) rfl rfl dX1_add_23 ?_
  refine lv_iload hx hb dX1_add_26 (lv_at hl 0 rfl) ?_
  refine lv_iload_n hx hb dX1_add_28 rfl (lv_at hl 4 rfl) ?_
  obtain ⟨g9, h⟩ := h
  refine va_iast hx hb hK hP hD hS 3 0 rfl rfl g9 dX1_add_29 (fun H locs hP hD hS => ?_)
  have hP : va_P D vwCl (wT cI tA ((upd T.1 T.2.2.2.2.2.2.2.2.2.2.toNatClampNeg p0), (upd T.2.1 T.2.2.2.2.2.2.2.2.2.2.toNatClampNeg p1), (upd T.2.2.1 T.2.2.2.2.2.2.2.2.2.2.toNatClampNeg p2), T.2.2.2.1, T.2.2.2.2.1, T.2.2.2.2.2.1, T.2.2.2.2.2.2.1, T.2.2.2.2.2.2.2.1, T.2.2.2.2.2.2.2.2.1, T.2.2.2.2.2.2.2.2.2.1, T.2.2.2.2.2.2.2.2.2.2)) H := hP
  have hD : va_D A (wT cI tA ((upd T.1 T.2.2.2.2.2.2.2.2.2.2.toNatClampNeg p0), (upd T.2.1 T.2.2.2.2.2.2.2.2.2.2.toNatClampNeg p1), (upd T.2.2.1 T.2.2.2.2.2.2.2.2.2.2.toNatClampNeg p2), T.2.2.2.1, T.2.2.2.2.1, T.2.2.2.2.2.1, T.2.2.2.2.2.2.1, T.2.2.2.2.2.2.2.1, T.2.2.2.2.2.2.2.2.1, T.2.2.2.2.2.2.2.2.2.1, T.2.2.2.2.2.2.2.2.2.2)) := hD
  refine lv_aload_n hx hb dX1_add_30 rfl (lv_at hl 1 rfl) ?_
  refine z_get C f_X1_21 hP (q0 := 0) rfl rfl dX1_add_31 ?_
  refine lv_iload hx hb dX1_add_34 (lv_at hl 0 rfl) ?_
  refine lv_iload hx hb dX1_add_36 (lv_at hl 5 rfl) ?_
  obtain ⟨g9, h⟩ := h
  refine va_iast hx hb hK hP hD hS 4 0 rfl rfl g9 dX1_add_38 (fun H locs hP hD hS => ?_)
  have hP : va_P D vwCl (wT cI tA ((upd T.1 T.2.2.2.2.2.2.2.2.2.2.toNatClampNeg p0), (upd T.2.1 T.2.2.2.2.2.2.2.2.2.2.toNatClampNeg p1), (upd T.2.2.1 T.2.2.2.2.2.2.2.2.2.2.toNatClampNeg p2), (upd T.2.2.2.1 T.2.2.2.2.2.2.2.2.2.2.toNatClampNeg p3), T.2.2.2.2.1, T.2.2.2.2.2.1, T.2.2.2.2.2.2.1, T.2.2.2.2.2.2.2.1, T.2.2.2.2.2.2.2.2.1, T.2.2.2.2.2.2.2.2.2.1, T.2.2.2.2.2.2.2.2.2.2)) H := hP
  have hD : va_D A (wT cI tA ((upd T.1 T.2.2.2.2.2.2.2.2.2.2.toNatClampNeg p0), (upd T.2.1 T.2.2.2.2.2.2.2.2.2.2.toNatClampNeg p1), (upd T.2.2.1 T.2.2.2.2.2.2.2.2.2.2.toNatClampNeg p2), (upd T.2.2.2.1 T.2.2.2.2.2.2.2.2.2.2.toNatClampNeg p3), T.2.2.2.2.1, T.2.2.2.2.2.1, T.2.2.2.2.2.2.1, T.2.2.2.2.2.2.2.1, T.2.2.2.2.2.2.2.2.1, T.2.2.2.2.2.2.2.2.2.1, T.2.2.2.2.2.2.2.2.2.2)) := hD
  refine lv_aload_n hx hb dX1_add_39 rfl (lv_at hl 1 rfl) ?_
  refine z_get C f_X1_24 hP (q0 := 0) rfl rfl dX1_add_40 ?_
  refine lv_iload hx hb dX1_add_43 (lv_at hl 0 rfl) ?_
  refine lv_iload hx hb dX1_add_45 (lv_at hl 6 rfl) ?_
  obtain ⟨g9, h⟩ := h
  refine va_iast hx hb hK hP hD hS 5 0 rfl rfl g9 dX1_add_47 (fun H locs hP hD hS => ?_)
  have hP : va_P D vwCl (wT cI tA ((upd T.1 T.2.2.2.2.2.2.2.2.2.2.toNatClampNeg p0), (upd T.2.1 T.2.2.2.2.2.2.2.2.2.2.toNatClampNeg p1), (upd T.2.2.1 T.2.2.2.2.2.2.2.2.2.2.toNatClampNeg p2), (upd T.2.2.2.1 T.2.2.2.2.2.2.2.2.2.2.toNatClampNeg p3), (upd T.2.2.2.2.1 T.2.2.2.2.2.2.2.2.2.2.toNatClampNeg p4), T.2.2.2.2.2.1, T.2.2.2.2.2.2.1, T.2.2.2.2.2.2.2.1, T.2.2.2.2.2.2.2.2.1, T.2.2.2.2.2.2.2.2.2.1, T.2.2.2.2.2.2.2.2.2.2)) H := hP
  have hD : va_D A (wT cI tA ((upd T.1 T.2.2.2.2.2.2.2.2.2.2.toNatClampNeg p0), (upd T.2.1 T.2.2.2.2.2.2.2.2.2.2.toNatClampNeg p1), (upd T.2.2.1 T.2.2.2.2.2.2.2.2.2.2.toNatClampNeg p2), (upd T.2.2.2.1 T.2.2.2.2.2.2.2.2.2.2.toNatClampNeg p3), (upd T.2.2.2.2.1 T.2.2.2.2.2.2.2.2.2.2.toNatClampNeg p4), T.2.2.2.2.2.1, T.2.2.2.2.2.2.1, T.2.2.2.2.2.2.2.1, T.2.2.2.2.2.2.2.2.1, T.2.2.2.2.2.2.2.2.2.1, T.2.2.2.2.2.2.2.2.2.2)) := hD
  refine lv_aload_n hx hb dX1_add_48 rfl (lv_at hl 1 rfl) ?_
  refine z_get C f_X1_27 hP (q0 := 0) rfl rfl dX1_add_49 ?_
  refine lv_iload hx hb dX1_add_52 (lv_at hl 0 rfl) ?_
  refine lv_iload hx hb dX1_add_54 (lv_at hl 7 rfl) ?_
  obtain ⟨g9, h⟩ := h
  refine va_iast hx hb hK hP hD hS 6 0 rfl rfl g9 dX1_add_56 (fun H locs hP hD hS => ?_)
  have hP : va_P D vwCl (wT cI tA ((upd T.1 T.2.2.2.2.2.2.2.2.2.2.toNatClampNeg p0), (upd T.2.1 T.2.2.2.2.2.2.2.2.2.2.toNatClampNeg p1), (upd T.2.2.1 T.2.2.2.2.2.2.2.2.2.2.toNatClampNeg p2), (upd T.2.2.2.1 T.2.2.2.2.2.2.2.2.2.2.toNatClampNeg p3), (upd T.2.2.2.2.1 T.2.2.2.2.2.2.2.2.2.2.toNatClampNeg p4), (upd T.2.2.2.2.2.1 T.2.2.2.2.2.2.2.2.2.2.toNatClampNeg p5), T.2.2.2.2.2.2.1, T.2.2.2.2.2.2.2.1, T.2.2.2.2.2.2.2.2.1, T.2.2.2.2.2.2.2.2.2.1, T.2.2.2.2.2.2.2.2.2.2)) H := hP
  have hD : va_D A (wT cI tA ((upd T.1 T.2.2.2.2.2.2.2.2.2.2.toNatClampNeg p0), (upd T.2.1 T.2.2.2.2.2.2.2.2.2.2.toNatClampNeg p1), (upd T.2.2.1 T.2.2.2.2.2.2.2.2.2.2.toNatClampNeg p2), (upd T.2.2.2.1 T.2.2.2.2.2.2.2.2.2.2.toNatClampNeg p3), (upd T.2.2.2.2.1 T.2.2.2.2.2.2.2.2.2.2.toNatClampNeg p4), (upd T.2.2.2.2.2.1 T.2.2.2.2.2.2.2.2.2.2.toNatClampNeg p5), T.2.2.2.2.2.2.1, T.2.2.2.2.2.2.2.1, T.2.2.2.2.2.2.2.2.1, T.2.2.2.2.2.2.2.2.2.1, T.2.2.2.2.2.2.2.2.2.2)) := hD
  refine lv_aload_n hx hb dX1_add_57 rfl (lv_at hl 1 rfl) ?_
  refine z_get C f_X1_30 hP (q0 := 0) rfl rfl dX1_add_58 ?_
  refine lv_iload hx hb dX1_add_61 (lv_at hl 0 rfl) ?_
  refine lv_iload hx hb dX1_add_63 (lv_at hl 8 rfl) ?_
  obtain ⟨g9, h⟩ := h
  refine va_iast hx hb hK hP hD hS 7 0 rfl rfl g9 dX1_add_65 (fun H locs hP hD hS => ?_)
  have hP : va_P D vwCl (wT cI tA ((upd T.1 T.2.2.2.2.2.2.2.2.2.2.toNatClampNeg p0), (upd T.2.1 T.2.2.2.2.2.2.2.2.2.2.toNatClampNeg p1), (upd T.2.2.1 T.2.2.2.2.2.2.2.2.2.2.toNatClampNeg p2), (upd T.2.2.2.1 T.2.2.2.2.2.2.2.2.2.2.toNatClampNeg p3), (upd T.2.2.2.2.1 T.2.2.2.2.2.2.2.2.2.2.toNatClampNeg p4), (upd T.2.2.2.2.2.1 T.2.2.2.2.2.2.2.2.2.2.toNatClampNeg p5), (upd T.2.2.2.2.2.2.1 T.2.2.2.2.2.2.2.2.2.2.toNatClampNeg p6), T.2.2.2.2.2.2.2.1, T.2.2.2.2.2.2.2.2.1, T.2.2.2.2.2.2.2.2.2.1, T.2.2.2.2.2.2.2.2.2.2)) H := hP
  have hD : va_D A (wT cI tA ((upd T.1 T.2.2.2.2.2.2.2.2.2.2.toNatClampNeg p0), (upd T.2.1 T.2.2.2.2.2.2.2.2.2.2.toNatClampNeg p1), (upd T.2.2.1 T.2.2.2.2.2.2.2.2.2.2.toNatClampNeg p2), (upd T.2.2.2.1 T.2.2.2.2.2.2.2.2.2.2.toNatClampNeg p3), (upd T.2.2.2.2.1 T.2.2.2.2.2.2.2.2.2.2.toNatClampNeg p4), (upd T.2.2.2.2.2.1 T.2.2.2.2.2.2.2.2.2.2.toNatClampNeg p5), (upd T.2.2.2.2.2.2.1 T.2.2.2.2.2.2.2.2.2.2.toNatClampNeg p6), T.2.2.2.2.2.2.2.1, T.2.2.2.2.2.2.2.2.1, T.2.2.2.2.2.2.2.2.2.1, T.2.2.2.2.2.2.2.2.2.2)) := hD
  refine lv_aload_n hx hb dX1_add_66 rfl (lv_at hl 1 rfl) ?_
  refine z_get C f_X1_33 hP (q0 := 0) rfl rfl dX1_add_67 ?_
  refine lv_iload hx hb dX1_add_70 (lv_at hl 0 rfl) ?_
  refine lv_iload hx hb dX1_add_72 (lv_at hl 8 rfl) ?_
  refine lv_iconst (v := (-1)) hx hb dX1_add_74 (by decide) ?_
  refine lv_icmp_ne (tgt := 82) hx hb dX1_add_75 (by decide) (fun c75 => ?_) (fun c75 => ?_)
  · have h := h.2 c75
    refine lv_aload_n hx hb dX1_add_82 rfl (lv_at hl 1 rfl) ?_
    refine z_get C f_X1_33 hP (q0 := 0) rfl rfl dX1_add_83 ?_
    refine lv_iload hx hb dX1_add_86 (lv_at hl 8 rfl) ?_
    obtain ⟨g9, h⟩ := h
    refine va_iald hx hb hK hP 8 0 rfl rfl g9 dX1_add_88 ?_
    refine lv_iconst (v := 1) hx hb dX1_add_89 (by decide) ?_
    refine lv_iadd hx hb dX1_add_90 ?_
    refine W.widen (k := 0) (n := 0) (Nat.le_of_ble_eq_true rfl) (Nat.le_of_ble_eq_true rfl) ?_
    exact k91 T.2.2.2.2.2.2.2.2.2.2 T.2.2.2.2.2.2.2.2.2.2 ((T.2.2.2.2.2.2.2.1 p6.toNatClampNeg) + 1) ((upd T.1 T.2.2.2.2.2.2.2.2.2.2.toNatClampNeg p0), (upd T.2.1 T.2.2.2.2.2.2.2.2.2.2.toNatClampNeg p1), (upd T.2.2.1 T.2.2.2.2.2.2.2.2.2.2.toNatClampNeg p2), (upd T.2.2.2.1 T.2.2.2.2.2.2.2.2.2.2.toNatClampNeg p3), (upd T.2.2.2.2.1 T.2.2.2.2.2.2.2.2.2.2.toNatClampNeg p4), (upd T.2.2.2.2.2.1 T.2.2.2.2.2.2.2.2.2.2.toNatClampNeg p5), (upd T.2.2.2.2.2.2.1 T.2.2.2.2.2.2.2.2.2.2.toNatClampNeg p6), T.2.2.2.2.2.2.2.1, T.2.2.2.2.2.2.2.2.1, T.2.2.2.2.2.2.2.2.2.1, T.2.2.2.2.2.2.2.2.2.2)  _ _ hP hD hS _ (lv_sub hl [1, 0] rfl) h
  · have h := h.1 c75
    refine lv_iconst (v := 0) hx hb dX1_add_78 (by decide) ?_
    refine lv_goto (tgt := 91) hx hb dX1_add_79 (by decide) ?_
    refine W.widen (k := 0) (n := 0) (Nat.le_of_ble_eq_true rfl) (Nat.le_of_ble_eq_true rfl) ?_
    exact k91 T.2.2.2.2.2.2.2.2.2.2 T.2.2.2.2.2.2.2.2.2.2 0 ((upd T.1 T.2.2.2.2.2.2.2.2.2.2.toNatClampNeg p0), (upd T.2.1 T.2.2.2.2.2.2.2.2.2.2.toNatClampNeg p1), (upd T.2.2.1 T.2.2.2.2.2.2.2.2.2.2.toNatClampNeg p2), (upd T.2.2.2.1 T.2.2.2.2.2.2.2.2.2.2.toNatClampNeg p3), (upd T.2.2.2.2.1 T.2.2.2.2.2.2.2.2.2.2.toNatClampNeg p4), (upd T.2.2.2.2.2.1 T.2.2.2.2.2.2.2.2.2.2.toNatClampNeg p5), (upd T.2.2.2.2.2.2.1 T.2.2.2.2.2.2.2.2.2.2.toNatClampNeg p6), T.2.2.2.2.2.2.2.1, T.2.2.2.2.2.2.2.2.1, T.2.2.2.2.2.2.2.2.2.1, T.2.2.2.2.2.2.2.2.2.2)  _ _ hP hD hS _ (lv_sub hl [1, 0] rfl) h
theorem q522 : (Jvm.Cond.methodLink "PactClocks" (64 : Nat) ({ cls := "PactClocks$Book", name := "isGone", desc := "(I)Z" } : Jvm.MethodName)) ∈ lw_all := mt2 190 (by decide +kernel) (by decide +kernel)
theorem q523 : (Jvm.Cond.code ({ cls := "PactClocks$Terms", name := "add", desc := "(IIIIIII)I" } : Jvm.MethodName) prog_3_method_2_code (9 : Nat) (Option.some Jvm.ClassFile.FieldType.int)) ∈ lw_all := mt2 195 (by decide +kernel) (by decide +kernel)
theorem q524 : (Jvm.Cond.instanceMethod ({ cls := "PactClocks$Terms", name := "add", desc := "(IIIIIII)I" } : Jvm.MethodName)) ∈ lw_all := mt2 193 (by decide +kernel) (by decide +kernel)
theorem q525 : (Jvm.Cond.selects "PactClocks$Terms" ({ cls := "PactClocks$Terms", name := "add", desc := "(IIIIIII)I" } : Jvm.MethodName) ({ cls := "PactClocks$Terms", name := "add", desc := "(IIIIIII)I" } : Jvm.MethodName)) ∈ lw_all := mt2 194 (by decide +kernel) (by decide +kernel)
theorem q526 : (Jvm.Cond.methodLink "PactClocks" (70 : Nat) ({ cls := "PactClocks$Terms", name := "add", desc := "(IIIIIII)I" } : Jvm.MethodName)) ∈ lw_all := mt2 192 (by decide +kernel) (by decide +kernel)
theorem q527 : (Jvm.Cond.code ({ cls := "PactClocks$Book", name := "enter", desc := "(I)V" } : Jvm.MethodName) prog_2_method_7_code (3 : Nat) (Option.none : Option Jvm.ClassFile.FieldType)) ∈ lw_all := mt3 183 (by decide +kernel) (by decide +kernel)
theorem q528 : (Jvm.Cond.instanceMethod ({ cls := "PactClocks$Book", name := "enter", desc := "(I)V" } : Jvm.MethodName)) ∈ lw_all := mt3 181 (by decide +kernel) (by decide +kernel)
theorem q529 : (Jvm.Cond.selects "PactClocks$Book" ({ cls := "PactClocks$Book", name := "enter", desc := "(I)V" } : Jvm.MethodName) ({ cls := "PactClocks$Book", name := "enter", desc := "(I)V" } : Jvm.MethodName)) ∈ lw_all := mt3 182 (by decide +kernel) (by decide +kernel)
theorem q530 : (Jvm.Cond.methodLink "PactClocks" (74 : Nat) ({ cls := "PactClocks$Book", name := "enter", desc := "(I)V" } : Jvm.MethodName)) ∈ lw_all := mt3 180 (by decide +kernel) (by decide +kernel)
theorem v_X1_add : zV yX1_add cX1_add 9 (some .int) 7 := ⟨q524, q525, q237, q523, by decide +kernel, by decide +kernel, by decide +kernel⟩
theorem v_X0_enter : zV yX0_enter cX0_enter 3 none 1 := ⟨q528, q529, q4, q527, by decide +kernel, by decide +kernel, by decide +kernel⟩
theorem th_X2_68 : zTh RX2 "java/lang/IllegalStateException" "the duty on which it would hang is failed or released" 36 68 40 := z_th3 (List.mem_append_right _ (List.mem_append_right _ (List.mem_append_left _ (List.mem_of_getElem? (i := 191) (by decide +kernel))))) (by decide +kernel) q343 q344
theorem th_X2_62 : zTh RX2 "java/lang/IllegalStateException" "there are as many duties as there can be" 36 62 40 := z_th3 (List.mem_append_right _ (List.mem_append_right _ (List.mem_append_left _ (List.mem_of_getElem? (i := 189) (by decide +kernel))))) (by decide +kernel) q343 q344
theorem th_X2_56 : zTh RX2 "java/lang/IllegalArgumentException" "a party can't owe itself" 54 56 58 := z_th2 (List.mem_append_right _ (List.mem_append_right _ (List.mem_append_left _ (List.mem_of_getElem? (i := 188) (by decide +kernel))))) (by decide +kernel) q339 q340
def wpX2_addDuty (post : Int32 → DS → Prop) (px : String → Prop) (d : DS) (p0 : Int32) (p1 : Int32) (p2 : Int32) (p3 : Int32) (p4 : Int32) (p5 : Int32) (p6 : Int32) : Prop := wpX2_requireParty (wpX2_requireParty ((p6 = (-1) → (p0 = p1 → px "java/lang/IllegalArgumentException") ∧ (¬ p0 = p1 → wpX2_requireWithin (wpX2_requireWithin (wpX2_requireWithin (wpX2_requireWithin ((d.2.2.1.2.2.2.2.2.2.2.2.2.2 < 20 → wpX0_isGone (fun r96 => (r96 = 0 → wpX1_add (fun r127 T127 => wpX0_enter (fun b138 => post r127 (b138, d.2.1, T127, d.2.2.2.1, d.2.2.2.2)) T127 d.1 r127) d.2.2.1 p0 p1 p2 p3 p4 p5 p6) ∧ (¬ r96 = 0 → px "java/lang/IllegalStateException")) d.2.2.1 d.1 p6) ∧ (¬ d.2.2.1.2.2.2.2.2.2.2.2.2.2 < 20 → px "java/lang/IllegalStateException")) px p5 0 20) px p4 0 10) px p3 1 30) px p2 1 50)) ∧ (¬ p6 = (-1) → wpX2_requireDuty ((p0 = p1 → px "java/lang/IllegalArgumentException") ∧ (¬ p0 = p1 → wpX2_requireWithin (wpX2_requireWithin (wpX2_requireWithin (wpX2_requireWithin ((d.2.2.1.2.2.2.2.2.2.2.2.2.2 < 20 → wpX0_isGone (fun r96 => (r96 = 0 → wpX1_add (fun r127 T127 => wpX0_enter (fun b138 => post r127 (b138, d.2.1, T127, d.2.2.2.1, d.2.2.2.2)) T127 d.1 r127) d.2.2.1 p0 p1 p2 p3 p4 p5 p6) ∧ (¬ r96 = 0 → px "java/lang/IllegalStateException")) d.2.2.1 d.1 p6) ∧ (¬ d.2.2.1.2.2.2.2.2.2.2.2.2.2 < 20 → px "java/lang/IllegalStateException")) px p5 0 20) px p4 0 10) px p3 1 30) px p2 1 50)) px d p6)) px d p1) px d p0
set_option maxHeartbeats 4000000 in
set_option maxRecDepth 100000 in
theorem x_X2_addDuty {l : Launch} (hfl : l.stackTraces = false) {s0 : State} (hs0 : zS s0) (D : va_G) (cI cB cJ : ClassId) (dA : Nat → Nat) (bA : Nat → Nat) (aA : Nat → Nat) (tA : Nat → Nat) (d : DS) (p0 : Int32) (p1 : Int32) (p2 : Int32) (p3 : Int32) (p4 : Int32) (p5 : Int32) (p6 : Int32) {post : Int32 → DS → Prop} {px : String → Prop} (h : wpX2_addDuty post px d p0 p1 p2 p3 p4 p5 p6) : zX s0 l D (zty cI cB cJ) yX2_addDuty cX2_addDuty 9 (some .int) 9 17 334 [.ref (dA 0), .int p0, .int p1, .int p2, .int p3, .int p4, .int p5, .int p6] (wD cI dA bA aA tA d) (fun u : Int32 × DS => some (Value.int u.1)) (fun u : Int32 × DS => post u.1 u.2) (fun u : Int32 × DS => wD cI dA bA aA tA u.2) px := by
  refine zX_intro (by decide +kernel) (Nat.le_of_ble_eq_true rfl) ?_
  intro p e s m below meth c A C hnt hA hG hP hD hS ls hl
  have C : zC D (zty cI cB cJ) p s m ([.ref (dA 0), .int p0, .int p1, .int p2, .int p3, .int p4, .int p5, .int p6] : List Value).toArray meth c cX2_addDuty RX2 (some .int) 9 := C
  have hx := C.1
  have hb := C.2.1
  have hts := C.2.2.1
  have hown := C.2.2.2.1
  have hml := C.2.2.2.2.2.1
  have hK := C.2.2.2.2.2.2.2
  have hl : lv_has ls 9 [(0, .ref (dA 0)), (1, .int p0), (2, .int p1), (3, .int p2), (4, .int p3), (5, .int p4), (6, .int p5), (7, .int p6)] := hl
  have hP : va_P D vwCl (wD cI dA bA aA tA d) s.heap := hP
  have hD : va_D A (wD cI dA bA aA tA d) := hD
  unfold wpX2_addDuty at h
  refine lv_aload_n hx hb dX2_addDuty_0 rfl (lv_at hl 0 rfl) ?_
  refine lv_iload_n hx hb dX2_addDuty_1 rfl (lv_at hl 1 rfl) ?_
  refine z_XV (As := [.int p0]) (rest := []) (wr := ([] : va_W)) (wN := (fun _ : Unit => wD cI dA bA aA tA d)) [0, 1, 2, 3, 4, 5, 6, 7, 8, 9, 10, 11, 12, 13, 14, 15, 16, 17, 18, 19, 20, 21] [] [0, 1, 2, 3, 4, 5, 6, 7, 8, 9, 10, 11, 12, 13, 14, 15, 16, 17, 18, 19, 20, 21] [0, 1, 2, 3, 4, 5, 6, 7, 8, 9, 10, 11, 12, 13, 14, 15, 16, 17, 18, 19, 20, 21] C hG hA hP hD hS (x_X2_requireParty hfl hs0 D cI cB cJ dA bA aA tA d p0 h) q229 v_X2_requireParty rfl rfl ⟨by decide, by decide, by decide⟩ (by decide) (fun _ => rfl) rfl rfl rfl rfl ⟨(Nat.le_of_ble_eq_true rfl), (Nat.le_of_ble_eq_true rfl)⟩ ⟨(Nat.le_of_ble_eq_true rfl), (Nat.le_of_ble_eq_true rfl)⟩ hl.1 rfl (lv_room (Nat.le_of_ble_eq_true rfl)) dX2_addDuty_2 (fun E ce q9 H locs hE hP hS hce hcv hcl => zX_out C hnt hE hP hS hce hcv hcl (Nat.le_of_ble_eq_true rfl) (Nat.le_of_ble_eq_true rfl)) (fun _ H locs h hP hD hS => ?_)
  have hP : va_P D vwCl (wD cI dA bA aA tA d) H := hP
  have hD : va_D A (wD cI dA bA aA tA d) := hD
  refine lv_aload_n hx hb dX2_addDuty_5 rfl (lv_at hl 0 rfl) ?_
  refine lv_iload_n hx hb dX2_addDuty_6 rfl (lv_at hl 2 rfl) ?_
  refine z_XV (As := [.int p1]) (rest := []) (wr := ([] : va_W)) (wN := (fun _ : Unit => wD cI dA bA aA tA d)) [0, 1, 2, 3, 4, 5, 6, 7, 8, 9, 10, 11, 12, 13, 14, 15, 16, 17, 18, 19, 20, 21] [] [0, 1, 2, 3, 4, 5, 6, 7, 8, 9, 10, 11, 12, 13, 14, 15, 16, 17, 18, 19, 20, 21] [0, 1, 2, 3, 4, 5, 6, 7, 8, 9, 10, 11, 12, 13, 14, 15, 16, 17, 18, 19, 20, 21] C hG hA hP hD hS (x_X2_requireParty hfl hs0 D cI cB cJ dA bA aA tA d p1 h) q229 v_X2_requireParty rfl rfl ⟨by decide, by decide, by decide⟩ (by decide) (fun _ => rfl) rfl rfl rfl rfl ⟨(Nat.le_of_ble_eq_true rfl), (Nat.le_of_ble_eq_true rfl)⟩ ⟨(Nat.le_of_ble_eq_true rfl), (Nat.le_of_ble_eq_true rfl)⟩ hl.1 rfl (lv_room (Nat.le_of_ble_eq_true rfl)) dX2_addDuty_7 (fun E ce q9 H locs hE hP hS hce hcv hcl => zX_out C hnt hE hP hS hce hcv hcl (Nat.le_of_ble_eq_true rfl) (Nat.le_of_ble_eq_true rfl)) (fun _ H locs h hP hD hS => ?_)
  have hP : va_P D vwCl (wD cI dA bA aA tA d) H := hP
  have hD : va_D A (wD cI dA bA aA tA d) := hD
  refine lv_iload hx hb dX2_addDuty_10 (lv_at hl 7 rfl) ?_
  refine lv_iconst (v := (-1)) hx hb dX2_addDuty_12 (by decide) ?_
  refine lv_icmp_eq (tgt := 22) hx hb dX2_addDuty_13 (by decide) (fun c13 => ?_) (fun c13 => ?_)
  · have h := h.1 c13
    refine lv_iload_n hx hb dX2_addDuty_22 rfl (lv_at hl 1 rfl) ?_
    refine lv_iload_n hx hb dX2_addDuty_23 rfl (lv_at hl 2 rfl) ?_
    refine lv_icmp_ne (tgt := 37) hx hb dX2_addDuty_24 (by decide) (fun c24 => ?_) (fun c24 => ?_)
    · have h := h.2 c24
      refine lv_iload_n hx hb dX2_addDuty_37 rfl (lv_at hl 3 rfl) ?_
      refine lv_iconst (v := 1) hx hb dX2_addDuty_38 (by decide) ?_
      refine lv_bipush (v := 50) hx hb dX2_addDuty_39 (by decide) ?_
      refine z_XS (As := [.int p2, .int 1, .int 50]) (rest := []) (wr := (List.filterMap (fun i => (wD cI dA bA aA tA d)[i]?) [0, 1, 2, 3, 4, 5, 6, 7, 8, 9, 10, 11, 12, 13, 14, 15, 16, 17, 18, 19, 20, 21])) (wN := (fun _ : Unit => wD cI dA bA aA tA d)) [] [0, 1, 2, 3, 4, 5, 6, 7, 8, 9, 10, 11, 12, 13, 14, 15, 16, 17, 18, 19, 20, 21] [0, 1, 2, 3, 4, 5, 6, 7, 8, 9, 10, 11, 12, 13, 14, 15, 16, 17, 18, 19, 20, 21] [0, 1, 2, 3, 4, 5, 6, 7, 8, 9, 10, 11, 12, 13, 14, 15, 16, 17, 18, 19, 20, 21] C hG hA hP hD hS (x_X2_requireWithin hfl hs0 D cI cB cJ p2 1 50 h) q205 v_X2_requireWithin rfl rfl ⟨by decide, by decide, by decide⟩ (by decide) (fun _ => rfl) rfl rfl ⟨(Nat.le_of_ble_eq_true rfl), (Nat.le_of_ble_eq_true rfl)⟩ ⟨(Nat.le_of_ble_eq_true rfl), (Nat.le_of_ble_eq_true rfl)⟩ hl.1 rfl (lv_room (Nat.le_of_ble_eq_true rfl)) dX2_addDuty_41 (fun E ce q9 H locs hE hP hS hce hcv hcl => zX_out C hnt hE hP hS hce hcv hcl (Nat.le_of_ble_eq_true rfl) (Nat.le_of_ble_eq_true rfl)) (fun _ H locs h hP hD hS => ?_)
      have hP : va_P D vwCl (wD cI dA bA aA tA d) H := hP
      have hD : va_D A (wD cI dA bA aA tA d) := hD
      refine lv_iload hx hb dX2_addDuty_44 (lv_at hl 4 rfl) ?_
      refine lv_iconst (v := 1) hx hb dX2_addDuty_46 (by decide) ?_
      refine lv_bipush (v := 30) hx hb dX2_addDuty_47 (by decide) ?_
      refine z_XS (As := [.int p3, .int 1, .int 30]) (rest := []) (wr := (List.filterMap (fun i => (wD cI dA bA aA tA d)[i]?) [0, 1, 2, 3, 4, 5, 6, 7, 8, 9, 10, 11, 12, 13, 14, 15, 16, 17, 18, 19, 20, 21])) (wN := (fun _ : Unit => wD cI dA bA aA tA d)) [] [0, 1, 2, 3, 4, 5, 6, 7, 8, 9, 10, 11, 12, 13, 14, 15, 16, 17, 18, 19, 20, 21] [0, 1, 2, 3, 4, 5, 6, 7, 8, 9, 10, 11, 12, 13, 14, 15, 16, 17, 18, 19, 20, 21] [0, 1, 2, 3, 4, 5, 6, 7, 8, 9, 10, 11, 12, 13, 14, 15, 16, 17, 18, 19, 20, 21] C hG hA hP hD hS (x_X2_requireWithin hfl hs0 D cI cB cJ p3 1 30 h) q205 v_X2_requireWithin rfl rfl ⟨by decide, by decide, by decide⟩ (by decide) (fun _ => rfl) rfl rfl ⟨(Nat.le_of_ble_eq_true rfl), (Nat.le_of_ble_eq_true rfl)⟩ ⟨(Nat.le_of_ble_eq_true rfl), (Nat.le_of_ble_eq_true rfl)⟩ hl.1 rfl (lv_room (Nat.le_of_ble_eq_true rfl)) dX2_addDuty_49 (fun E ce q9 H locs hE hP hS hce hcv hcl => zX_out C hnt hE hP hS hce hcv hcl (Nat.le_of_ble_eq_true rfl) (Nat.le_of_ble_eq_true rfl)) (fun _ H locs h hP hD hS => ?_)
      have hP : va_P D vwCl (wD cI dA bA aA tA d) H := hP
      have hD : va_D A (wD cI dA bA aA tA d) := hD
      refine lv_iload hx hb dX2_addDuty_52 (lv_at hl 5 rfl) ?_
      refine lv_iconst (v := 0) hx hb dX2_addDuty_54 (by decide) ?_
      refine lv_bipush (v := 10) hx hb dX2_addDuty_55 (by decide) ?_
      refine z_XS (As := [.int p4, .int 0, .int 10]) (rest := []) (wr := (List.filterMap (fun i => (wD cI dA bA aA tA d)[i]?) [0, 1, 2, 3, 4, 5, 6, 7, 8, 9, 10, 11, 12, 13, 14, 15, 16, 17, 18, 19, 20, 21])) (wN := (fun _ : Unit => wD cI dA bA aA tA d)) [] [0, 1, 2, 3, 4, 5, 6, 7, 8, 9, 10, 11, 12, 13, 14, 15, 16, 17, 18, 19, 20, 21] [0, 1, 2, 3, 4, 5, 6, 7, 8, 9, 10, 11, 12, 13, 14, 15, 16, 17, 18, 19, 20, 21] [0, 1, 2, 3, 4, 5, 6, 7, 8, 9, 10, 11, 12, 13, 14, 15, 16, 17, 18, 19, 20, 21] C hG hA hP hD hS (x_X2_requireWithin hfl hs0 D cI cB cJ p4 0 10 h) q205 v_X2_requireWithin rfl rfl ⟨by decide, by decide, by decide⟩ (by decide) (fun _ => rfl) rfl rfl ⟨(Nat.le_of_ble_eq_true rfl), (Nat.le_of_ble_eq_true rfl)⟩ ⟨(Nat.le_of_ble_eq_true rfl), (Nat.le_of_ble_eq_true rfl)⟩ hl.1 rfl (lv_room (Nat.le_of_ble_eq_true rfl)) dX2_addDuty_57 (fun E ce q9 H locs hE hP hS hce hcv hcl => zX_out C hnt hE hP hS hce hcv hcl (Nat.le_of_ble_eq_true rfl) (Nat.le_of_ble_eq_true rfl)) (fun _ H locs h hP hD hS => ?_)
      have hP : va_P D vwCl (wD cI dA bA aA tA d) H := hP
      have hD : va_D A (wD cI dA bA aA tA d) := hD
      refine lv_iload hx hb dX2_addDuty_60 (lv_at hl 6 rfl) ?_
      refine lv_iconst (v := 0) hx hb dX2_addDuty_62 (by decide) ?_
      refine lv_bipush (v := 20) hx hb dX2_addDuty_63 (by decide) ?_
      refine z_XS (As := [.int p5, .int 0, .int 20]) (rest := []) (wr := (List.filterMap (fun i => (wD cI dA bA aA tA d)[i]?) [0, 1, 2, 3, 4, 5, 6, 7, 8, 9, 10, 11, 12, 13, 14, 15, 16, 17, 18, 19, 20, 21])) (wN := (fun _ : Unit => wD cI dA bA aA tA d)) [] [0, 1, 2, 3, 4, 5, 6, 7, 8, 9, 10, 11, 12, 13, 14, 15, 16, 17, 18, 19, 20, 21] [0, 1, 2, 3, 4, 5, 6, 7, 8, 9, 10, 11, 12, 13, 14, 15, 16, 17, 18, 19, 20, 21] [0, 1, 2, 3, 4, 5, 6, 7, 8, 9, 10, 11, 12, 13, 14, 15, 16, 17, 18, 19, 20, 21] C hG hA hP hD hS (x_X2_requireWithin hfl hs0 D cI cB cJ p5 0 20 h) q205 v_X2_requireWithin rfl rfl ⟨by decide, by decide, by decide⟩ (by decide) (fun _ => rfl) rfl rfl ⟨(Nat.le_of_ble_eq_true rfl), (Nat.le_of_ble_eq_true rfl)⟩ ⟨(Nat.le_of_ble_eq_true rfl), (Nat.le_of_ble_eq_true rfl)⟩ hl.1 rfl (lv_room (Nat.le_of_ble_eq_true rfl)) dX2_addDuty_65 (fun E ce q9 H locs hE hP hS hce hcv hcl => zX_out C hnt hE hP hS hce hcv hcl (Nat.le_of_ble_eq_true rfl) (Nat.le_of_ble_eq_true rfl)) (fun _ H locs h hP hD hS => ?_)
      have hP : va_P D vwCl (wD cI dA bA aA tA d) H := hP
      have hD : va_D A (wD cI dA bA aA tA d) := hD
      refine lv_aload_n hx hb dX2_addDuty_68 rfl (lv_at hl 0 rfl) ?_
      refine z_get C f_X2_10 hP (q0 := 0) rfl rfl dX2_addDuty_69 ?_
      refine z_get C f_X2_59 hP (q0 := 11) rfl rfl dX2_addDuty_72 ?_
      refine lv_bipush (v := 20) hx hb dX2_addDuty_75 (by decide) ?_
      refine lv_icmp_lt (tgt := 90) hx hb dX2_addDuty_77 (by decide) (fun c77 => ?_) (fun c77 => ?_)
      · have h := h.1 c77
        refine lv_aload_n hx hb dX2_addDuty_90 rfl (lv_at hl 0 rfl) ?_
        refine z_get C f_X2_21 hP (q0 := 0) rfl rfl dX2_addDuty_91 ?_
        refine lv_iload hx hb dX2_addDuty_94 (lv_at hl 7 rfl) ?_
        refine z_RV (As := [.int p6]) (rest := []) [1, 2, 3, 4, 5, 11, 12, 13, 14, 15, 16, 17, 18, 19, 20, 21] C (hG.kept hS.1 hS.2.1).none hP (c_X0_isGone hfl hs0 D cI cB cJ bA tA d.2.2.1 d.1 p6 h) q522 v_X0_isGone rfl rfl rfl rfl ⟨(Nat.le_of_ble_eq_true rfl), (Nat.le_of_ble_eq_true rfl)⟩ ⟨(Nat.le_of_ble_eq_true rfl), (Nat.le_of_ble_eq_true rfl)⟩ hl.1 rfl (lv_room (Nat.le_of_ble_eq_true rfl)) dX2_addDuty_96 (fun r96 h => ?_)
        refine lv_if_eq (tgt := 112) hx hb dX2_addDuty_99 (by decide) (fun c99 => ?_) (fun c99 => ?_)
        · have h := h.1 c99
          refine lv_aload_n hx hb dX2_addDuty_112 rfl (lv_at hl 0 rfl) ?_
          refine z_get C f_X2_10 hP (q0 := 0) rfl rfl dX2_addDuty_113 ?_
          refine lv_iload_n hx hb dX2_addDuty_116 rfl (lv_at hl 1 rfl) ?_
          refine lv_iload_n hx hb dX2_addDuty_117 rfl (lv_at hl 2 rfl) ?_
          refine lv_iload_n hx hb dX2_addDuty_118 rfl (lv_at hl 3 rfl) ?_
          refine lv_iload hx hb dX2_addDuty_119 (lv_at hl 4 rfl) ?_
          refine lv_iload hx hb dX2_addDuty_121 (lv_at hl 5 rfl) ?_
          refine lv_iload hx hb dX2_addDuty_123 (lv_at hl 6 rfl) ?_
          refine lv_iload hx hb dX2_addDuty_125 (lv_at hl 7 rfl) ?_
          refine z_WV (As := [.int p0, .int p1, .int p2, .int p3, .int p4, .int p5, .int p6]) (rest := []) (wr := (List.filterMap (fun i => (wD cI dA bA aA tA d)[i]?) [0, 1, 2, 3, 4, 5, 6, 7, 8, 9, 10])) (wN := (fun u : Int32 × TS => wD cI dA bA aA tA (d.1, d.2.1, u.2, d.2.2.2.1, d.2.2.2.2))) [11, 12, 13, 14, 15, 16, 17, 18, 19, 20, 21] [0, 1, 2, 3, 4, 5, 6, 7, 8, 9, 10] [0, 1, 2, 3, 4, 5, 6, 7, 8, 9, 10, 11, 12, 13, 14, 15, 16, 17, 18, 19, 20, 21] C hG hA hP hD hS (c_X1_add hfl hs0 D cI cB cJ tA d.2.2.1 p0 p1 p2 p3 p4 p5 p6 h) q526 v_X1_add rfl rfl ⟨by decide, by decide, by decide⟩ (by decide) (fun _ => rfl) rfl rfl rfl ⟨(Nat.le_of_ble_eq_true rfl), (Nat.le_of_ble_eq_true rfl)⟩ ⟨(Nat.le_of_ble_eq_true rfl), (Nat.le_of_ble_eq_true rfl)⟩ hl.1 rfl (lv_room (Nat.le_of_ble_eq_true rfl)) dX2_addDuty_127 (fun u H locs h hP hD hS => ?_)
          obtain ⟨r127, T127⟩ := u
          have hP : va_P D vwCl (wD cI dA bA aA tA (d.1, d.2.1, T127, d.2.2.2.1, d.2.2.2.2)) H := hP
          have hD : va_D A (wD cI dA bA aA tA (d.1, d.2.1, T127, d.2.2.2.1, d.2.2.2.2)) := hD
          refine lv_istore (lv' := [(8, .int r127), (0, .ref (dA 0)), (1, .int p0), (2, .int p1), (3, .int p2), (4, .int p3), (5, .int p4), (6, .int p5), (7, .int p6)]) hx hb dX2_addDuty_130 hl (by decide) rfl (fun ls hl => ?_)
          refine lv_aload_n hx hb dX2_addDuty_132 rfl (lv_at hl 1 rfl) ?_
          refine z_get C f_X2_21 hP (q0 := 0) rfl rfl dX2_addDuty_133 ?_
          refine lv_iload hx hb dX2_addDuty_136 (lv_at hl 0 rfl) ?_
          refine z_WV (As := [.int r127]) (rest := []) (wr := (List.filterMap (fun i => (wD cI dA bA aA tA (d.1, d.2.1, T127, d.2.2.2.1, d.2.2.2.2))[i]?) [0, 6, 7, 8, 9, 10])) (wN := (fun u : BS => wD cI dA bA aA tA (u, d.2.1, T127, d.2.2.2.1, d.2.2.2.2))) [1, 2, 3, 4, 5, 11, 12, 13, 14, 15, 16, 17, 18, 19, 20, 21] [0, 6, 7, 8, 9, 10] [0, 6, 7, 8, 9, 10, 1, 2, 3, 4, 5, 11, 12, 13, 14, 15, 16, 17, 18, 19, 20, 21] C hG hA hP hD hS (c_X0_enter hfl hs0 D cI cB cJ bA tA T127 d.1 r127 h) q530 v_X0_enter rfl rfl ⟨by decide, by decide, by decide⟩ (by decide) (fun _ => rfl) rfl rfl rfl ⟨(Nat.le_of_ble_eq_true rfl), (Nat.le_of_ble_eq_true rfl)⟩ ⟨(Nat.le_of_ble_eq_true rfl), (Nat.le_of_ble_eq_true rfl)⟩ hl.1 rfl (lv_room (Nat.le_of_ble_eq_true rfl)) dX2_addDuty_138 (fun u H locs h hP hD hS => ?_)
          obtain ⟨b138, rfl⟩ : ∃ z, z = u := ⟨_, rfl⟩
          have hP : va_P D vwCl (wD cI dA bA aA tA (b138, d.2.1, T127, d.2.2.2.1, d.2.2.2.2)) H := hP
          have hD : va_D A (wD cI dA bA aA tA (b138, d.2.1, T127, d.2.2.2.1, d.2.2.2.2)) := hD
          refine lv_iload hx hb dX2_addDuty_141 (lv_at hl 0 rfl) ?_
          exact vx_ret (zW_iret C (r127, (b138, d.2.1, T127, d.2.2.2.1, d.2.2.2.2)) rfl h hP hD hS (Nat.le_of_ble_eq_true rfl) (Nat.le_of_ble_eq_true rfl) dX2_addDuty_143)
        · have h := h.2 c99
          exact z_throw hs0 hfl C hnt hG th_X2_68 hP hS hl.1 dX2_addDuty_102 dX2_addDuty_105 dX2_addDuty_106 dX2_addDuty_108 dX2_addDuty_111 (Nat.le_of_ble_eq_true rfl) (Nat.le_of_ble_eq_true rfl) (Nat.le_of_ble_eq_true rfl) (Nat.le_of_ble_eq_true rfl) h (Nat.le_of_ble_eq_true rfl) (Nat.le_of_ble_eq_true rfl)
      · have h := h.2 c77
        exact z_throw hs0 hfl C hnt hG th_X2_62 hP hS hl.1 dX2_addDuty_80 dX2_addDuty_83 dX2_addDuty_84 dX2_addDuty_86 dX2_addDuty_89 (Nat.le_of_ble_eq_true rfl) (Nat.le_of_ble_eq_true rfl) (Nat.le_of_ble_eq_true rfl) (Nat.le_of_ble_eq_true rfl) h (Nat.le_of_ble_eq_true rfl) (Nat.le_of_ble_eq_true rfl)
    · have h := h.1 c24
      exact z_throw hs0 hfl C hnt hG th_X2_56 hP hS hl.1 dX2_addDuty_27 dX2_addDuty_30 dX2_addDuty_31 dX2_addDuty_33 dX2_addDuty_36 (Nat.le_of_ble_eq_true rfl) (Nat.le_of_ble_eq_true rfl) (Nat.le_of_ble_eq_true rfl) (Nat.le_of_ble_eq_true rfl) h (Nat.le_of_ble_eq_true rfl) (Nat.le_of_ble_eq_true rfl)
  · have h := h.2 c13
    refine lv_aload_n hx hb dX2_addDuty_16 rfl (lv_at hl 0 rfl) ?_
    refine lv_iload hx hb dX2_addDuty_17 (lv_at hl 7 rfl) ?_
    refine z_XV (As := [.int p6]) (rest := []) (wr := ([] : va_W)) (wN := (fun _ : Unit => wD cI dA bA aA tA d)) [0, 1, 2, 3, 4, 5, 6, 7, 8, 9, 10, 11, 12, 13, 14, 15, 16, 17, 18, 19, 20, 21] [] [0, 1, 2, 3, 4, 5, 6, 7, 8, 9, 10, 11, 12, 13, 14, 15, 16, 17, 18, 19, 20, 21] [0, 1, 2, 3, 4, 5, 6, 7, 8, 9, 10, 11, 12, 13, 14, 15, 16, 17, 18, 19, 20, 21] C hG hA hP hD hS (x_X2_requireDuty hfl hs0 D cI cB cJ dA bA aA tA d p6 h) q211 v_X2_requireDuty rfl rfl ⟨by decide, by decide, by decide⟩ (by decide) (fun _ => rfl) rfl rfl rfl rfl ⟨(Nat.le_of_ble_eq_true rfl), (Nat.le_of_ble_eq_true rfl)⟩ ⟨(Nat.le_of_ble_eq_true rfl), (Nat.le_of_ble_eq_true rfl)⟩ hl.1 rfl (lv_room (Nat.le_of_ble_eq_true rfl)) dX2_addDuty_19 (fun E ce q9 H locs hE hP hS hce hcv hcl => zX_out C hnt hE hP hS hce hcv hcl (Nat.le_of_ble_eq_true rfl) (Nat.le_of_ble_eq_true rfl)) (fun _ H locs h hP hD hS => ?_)
    have hP : va_P D vwCl (wD cI dA bA aA tA d) H := hP
    have hD : va_D A (wD cI dA bA aA tA d) := hD
    refine lv_iload_n hx hb dX2_addDuty_22 rfl (lv_at hl 1 rfl) ?_
    refine lv_iload_n hx hb dX2_addDuty_23 rfl (lv_at hl 2 rfl) ?_
    refine lv_icmp_ne (tgt := 37) hx hb dX2_addDuty_24 (by decide) (fun c24 => ?_) (fun c24 => ?_)
    · have h := h.2 c24
      refine lv_iload_n hx hb dX2_addDuty_37 rfl (lv_at hl 3 rfl) ?_
      refine lv_iconst (v := 1) hx hb dX2_addDuty_38 (by decide) ?_
      refine lv_bipush (v := 50) hx hb dX2_addDuty_39 (by decide) ?_
      refine z_XS (As := [.int p2, .int 1, .int 50]) (rest := []) (wr := (List.filterMap (fun i => (wD cI dA bA aA tA d)[i]?) [0, 1, 2, 3, 4, 5, 6, 7, 8, 9, 10, 11, 12, 13, 14, 15, 16, 17, 18, 19, 20, 21])) (wN := (fun _ : Unit => wD cI dA bA aA tA d)) [] [0, 1, 2, 3, 4, 5, 6, 7, 8, 9, 10, 11, 12, 13, 14, 15, 16, 17, 18, 19, 20, 21] [0, 1, 2, 3, 4, 5, 6, 7, 8, 9, 10, 11, 12, 13, 14, 15, 16, 17, 18, 19, 20, 21] [0, 1, 2, 3, 4, 5, 6, 7, 8, 9, 10, 11, 12, 13, 14, 15, 16, 17, 18, 19, 20, 21] C hG hA hP hD hS (x_X2_requireWithin hfl hs0 D cI cB cJ p2 1 50 h) q205 v_X2_requireWithin rfl rfl ⟨by decide, by decide, by decide⟩ (by decide) (fun _ => rfl) rfl rfl ⟨(Nat.le_of_ble_eq_true rfl), (Nat.le_of_ble_eq_true rfl)⟩ ⟨(Nat.le_of_ble_eq_true rfl), (Nat.le_of_ble_eq_true rfl)⟩ hl.1 rfl (lv_room (Nat.le_of_ble_eq_true rfl)) dX2_addDuty_41 (fun E ce q9 H locs hE hP hS hce hcv hcl => zX_out C hnt hE hP hS hce hcv hcl (Nat.le_of_ble_eq_true rfl) (Nat.le_of_ble_eq_true rfl)) (fun _ H locs h hP hD hS => ?_)
      have hP : va_P D vwCl (wD cI dA bA aA tA d) H := hP
      have hD : va_D A (wD cI dA bA aA tA d) := hD
      refine lv_iload hx hb dX2_addDuty_44 (lv_at hl 4 rfl) ?_
      refine lv_iconst (v := 1) hx hb dX2_addDuty_46 (by decide) ?_
      refine lv_bipush (v := 30) hx hb dX2_addDuty_47 (by decide) ?_
      refine z_XS (As := [.int p3, .int 1, .int 30]) (rest := []) (wr := (List.filterMap (fun i => (wD cI dA bA aA tA d)[i]?) [0, 1, 2, 3, 4, 5, 6, 7, 8, 9, 10, 11, 12, 13, 14, 15, 16, 17, 18, 19, 20, 21])) (wN := (fun _ : Unit => wD cI dA bA aA tA d)) [] [0, 1, 2, 3, 4, 5, 6, 7, 8, 9, 10, 11, 12, 13, 14, 15, 16, 17, 18, 19, 20, 21] [0, 1, 2, 3, 4, 5, 6, 7, 8, 9, 10, 11, 12, 13, 14, 15, 16, 17, 18, 19, 20, 21] [0, 1, 2, 3, 4, 5, 6, 7, 8, 9, 10, 11, 12, 13, 14, 15, 16, 17, 18, 19, 20, 21] C hG hA hP hD hS (x_X2_requireWithin hfl hs0 D cI cB cJ p3 1 30 h) q205 v_X2_requireWithin rfl rfl ⟨by decide, by decide, by decide⟩ (by decide) (fun _ => rfl) rfl rfl ⟨(Nat.le_of_ble_eq_true rfl), (Nat.le_of_ble_eq_true rfl)⟩ ⟨(Nat.le_of_ble_eq_true rfl), (Nat.le_of_ble_eq_true rfl)⟩ hl.1 rfl (lv_room (Nat.le_of_ble_eq_true rfl)) dX2_addDuty_49 (fun E ce q9 H locs hE hP hS hce hcv hcl => zX_out C hnt hE hP hS hce hcv hcl (Nat.le_of_ble_eq_true rfl) (Nat.le_of_ble_eq_true rfl)) (fun _ H locs h hP hD hS => ?_)
      have hP : va_P D vwCl (wD cI dA bA aA tA d) H := hP
      have hD : va_D A (wD cI dA bA aA tA d) := hD
      refine lv_iload hx hb dX2_addDuty_52 (lv_at hl 5 rfl) ?_
      refine lv_iconst (v := 0) hx hb dX2_addDuty_54 (by decide) ?_
      refine lv_bipush (v := 10) hx hb dX2_addDuty_55 (by decide) ?_
      refine z_XS (As := [.int p4, .int 0, .int 10]) (rest := []) (wr := (List.filterMap (fun i => (wD cI dA bA aA tA d)[i]?) [0, 1, 2, 3, 4, 5, 6, 7, 8, 9, 10, 11, 12, 13, 14, 15, 16, 17, 18, 19, 20, 21])) (wN := (fun _ : Unit => wD cI dA bA aA tA d)) [] [0, 1, 2, 3, 4, 5, 6, 7, 8, 9, 10, 11, 12, 13, 14, 15, 16, 17, 18, 19, 20, 21] [0, 1, 2, 3, 4, 5, 6, 7, 8, 9, 10, 11, 12, 13, 14, 15, 16, 17, 18, 19, 20, 21] [0, 1, 2, 3, 4, 5, 6, 7, 8, 9, 10, 11, 12, 13, 14, 15, 16, 17, 18, 19, 20, 21] C hG hA hP hD hS (x_X2_requireWithin hfl hs0 D cI cB cJ p4 0 10 h) q205 v_X2_requireWithin rfl rfl ⟨by decide, by decide, by decide⟩ (by decide) (fun _ => rfl) rfl rfl ⟨(Nat.le_of_ble_eq_true rfl), (Nat.le_of_ble_eq_true rfl)⟩ ⟨(Nat.le_of_ble_eq_true rfl), (Nat.le_of_ble_eq_true rfl)⟩ hl.1 rfl (lv_room (Nat.le_of_ble_eq_true rfl)) dX2_addDuty_57 (fun E ce q9 H locs hE hP hS hce hcv hcl => zX_out C hnt hE hP hS hce hcv hcl (Nat.le_of_ble_eq_true rfl) (Nat.le_of_ble_eq_true rfl)) (fun _ H locs h hP hD hS => ?_)
      have hP : va_P D vwCl (wD cI dA bA aA tA d) H := hP
      have hD : va_D A (wD cI dA bA aA tA d) := hD
      refine lv_iload hx hb dX2_addDuty_60 (lv_at hl 6 rfl) ?_
      refine lv_iconst (v := 0) hx hb dX2_addDuty_62 (by decide) ?_
      refine lv_bipush (v := 20) hx hb dX2_addDuty_63 (by decide) ?_
      refine z_XS (As := [.int p5, .int 0, .int 20]) (rest := []) (wr := (List.filterMap (fun i => (wD cI dA bA aA tA d)[i]?) [0, 1, 2, 3, 4, 5, 6, 7, 8, 9, 10, 11, 12, 13, 14, 15, 16, 17, 18, 19, 20, 21])) (wN := (fun _ : Unit => wD cI dA bA aA tA d)) [] [0, 1, 2, 3, 4, 5, 6, 7, 8, 9, 10, 11, 12, 13, 14, 15, 16, 17, 18, 19, 20, 21] [0, 1, 2, 3, 4, 5, 6, 7, 8, 9, 10, 11, 12, 13, 14, 15, 16, 17, 18, 19, 20, 21] [0, 1, 2, 3, 4, 5, 6, 7, 8, 9, 10, 11, 12, 13, 14, 15, 16, 17, 18, 19, 20, 21] C hG hA hP hD hS (x_X2_requireWithin hfl hs0 D cI cB cJ p5 0 20 h) q205 v_X2_requireWithin rfl rfl ⟨by decide, by decide, by decide⟩ (by decide) (fun _ => rfl) rfl rfl ⟨(Nat.le_of_ble_eq_true rfl), (Nat.le_of_ble_eq_true rfl)⟩ ⟨(Nat.le_of_ble_eq_true rfl), (Nat.le_of_ble_eq_true rfl)⟩ hl.1 rfl (lv_room (Nat.le_of_ble_eq_true rfl)) dX2_addDuty_65 (fun E ce q9 H locs hE hP hS hce hcv hcl => zX_out C hnt hE hP hS hce hcv hcl (Nat.le_of_ble_eq_true rfl) (Nat.le_of_ble_eq_true rfl)) (fun _ H locs h hP hD hS => ?_)
      have hP : va_P D vwCl (wD cI dA bA aA tA d) H := hP
      have hD : va_D A (wD cI dA bA aA tA d) := hD
      refine lv_aload_n hx hb dX2_addDuty_68 rfl (lv_at hl 0 rfl) ?_
      refine z_get C f_X2_10 hP (q0 := 0) rfl rfl dX2_addDuty_69 ?_
      refine z_get C f_X2_59 hP (q0 := 11) rfl rfl dX2_addDuty_72 ?_
      refine lv_bipush (v := 20) hx hb dX2_addDuty_75 (by decide) ?_
      refine lv_icmp_lt (tgt := 90) hx hb dX2_addDuty_77 (by decide) (fun c77 => ?_) (fun c77 => ?_)
      · have h := h.1 c77
        refine lv_aload_n hx hb dX2_addDuty_90 rfl (lv_at hl 0 rfl) ?_
        refine z_get C f_X2_21 hP (q0 := 0) rfl rfl dX2_addDuty_91 ?_
        refine lv_iload hx hb dX2_addDuty_94 (lv_at hl 7 rfl) ?_
        refine z_RV (As := [.int p6]) (rest := []) [1, 2, 3, 4, 5, 11, 12, 13, 14, 15, 16, 17, 18, 19, 20, 21] C (hG.kept hS.1 hS.2.1).none hP (c_X0_isGone hfl hs0 D cI cB cJ bA tA d.2.2.1 d.1 p6 h) q522 v_X0_isGone rfl rfl rfl rfl ⟨(Nat.le_of_ble_eq_true rfl), (Nat.le_of_ble_eq_true rfl)⟩ ⟨(Nat.le_of_ble_eq_true rfl), (Nat.le_of_ble_eq_true rfl)⟩ hl.1 rfl (lv_room (Nat.le_of_ble_eq_true rfl)) dX2_addDuty_96 (fun r96 h => ?_)
        refine lv_if_eq (tgt := 112) hx hb dX2_addDuty_99 (by decide) (fun c99 => ?_) (fun c99 => ?_)
        · have h := h.1 c99
          refine lv_aload_n hx hb dX2_addDuty_112 rfl (lv_at hl 0 rfl) ?_
          refine z_get C f_X2_10 hP (q0 := 0) rfl rfl dX2_addDuty_113 ?_
          refine lv_iload_n hx hb dX2_addDuty_116 rfl (lv_at hl 1 rfl) ?_
          refine lv_iload_n hx hb dX2_addDuty_117 rfl (lv_at hl 2 rfl) ?_
          refine lv_iload_n hx hb dX2_addDuty_118 rfl (lv_at hl 3 rfl) ?_
          refine lv_iload hx hb dX2_addDuty_119 (lv_at hl 4 rfl) ?_
          refine lv_iload hx hb dX2_addDuty_121 (lv_at hl 5 rfl) ?_
          refine lv_iload hx hb dX2_addDuty_123 (lv_at hl 6 rfl) ?_
          refine lv_iload hx hb dX2_addDuty_125 (lv_at hl 7 rfl) ?_
          refine z_WV (As := [.int p0, .int p1, .int p2, .int p3, .int p4, .int p5, .int p6]) (rest := []) (wr := (List.filterMap (fun i => (wD cI dA bA aA tA d)[i]?) [0, 1, 2, 3, 4, 5, 6, 7, 8, 9, 10])) (wN := (fun u : Int32 × TS => wD cI dA bA aA tA (d.1, d.2.1, u.2, d.2.2.2.1, d.2.2.2.2))) [11, 12, 13, 14, 15, 16, 17, 18, 19, 20, 21] [0, 1, 2, 3, 4, 5, 6, 7, 8, 9, 10] [0, 1, 2, 3, 4, 5, 6, 7, 8, 9, 10, 11, 12, 13, 14, 15, 16, 17, 18, 19, 20, 21] C hG hA hP hD hS (c_X1_add hfl hs0 D cI cB cJ tA d.2.2.1 p0 p1 p2 p3 p4 p5 p6 h) q526 v_X1_add rfl rfl ⟨by decide, by decide, by decide⟩ (by decide) (fun _ => rfl) rfl rfl rfl ⟨(Nat.le_of_ble_eq_true rfl), (Nat.le_of_ble_eq_true rfl)⟩ ⟨(Nat.le_of_ble_eq_true rfl), (Nat.le_of_ble_eq_true rfl)⟩ hl.1 rfl (lv_room (Nat.le_of_ble_eq_true rfl)) dX2_addDuty_127 (fun u H locs h hP hD hS => ?_)
          obtain ⟨r127, T127⟩ := u
          have hP : va_P D vwCl (wD cI dA bA aA tA (d.1, d.2.1, T127, d.2.2.2.1, d.2.2.2.2)) H := hP
          have hD : va_D A (wD cI dA bA aA tA (d.1, d.2.1, T127, d.2.2.2.1, d.2.2.2.2)) := hD
          refine lv_istore (lv' := [(8, .int r127), (0, .ref (dA 0)), (1, .int p0), (2, .int p1), (3, .int p2), (4, .int p3), (5, .int p4), (6, .int p5), (7, .int p6)]) hx hb dX2_addDuty_130 hl (by decide) rfl (fun ls hl => ?_)
          refine lv_aload_n hx hb dX2_addDuty_132 rfl (lv_at hl 1 rfl) ?_
          refine z_get C f_X2_21 hP (q0 := 0) rfl rfl dX2_addDuty_133 ?_
          refine lv_iload hx hb dX2_addDuty_136 (lv_at hl 0 rfl) ?_
          refine z_WV (As := [.int r127]) (rest := []) (wr := (List.filterMap (fun i => (wD cI dA bA aA tA (d.1, d.2.1, T127, d.2.2.2.1, d.2.2.2.2))[i]?) [0, 6, 7, 8, 9, 10])) (wN := (fun u : BS => wD cI dA bA aA tA (u, d.2.1, T127, d.2.2.2.1, d.2.2.2.2))) [1, 2, 3, 4, 5, 11, 12, 13, 14, 15, 16, 17, 18, 19, 20, 21] [0, 6, 7, 8, 9, 10] [0, 6, 7, 8, 9, 10, 1, 2, 3, 4, 5, 11, 12, 13, 14, 15, 16, 17, 18, 19, 20, 21] C hG hA hP hD hS (c_X0_enter hfl hs0 D cI cB cJ bA tA T127 d.1 r127 h) q530 v_X0_enter rfl rfl ⟨by decide, by decide, by decide⟩ (by decide) (fun _ => rfl) rfl rfl rfl ⟨(Nat.le_of_ble_eq_true rfl), (Nat.le_of_ble_eq_true rfl)⟩ ⟨(Nat.le_of_ble_eq_true rfl), (Nat.le_of_ble_eq_true rfl)⟩ hl.1 rfl (lv_room (Nat.le_of_ble_eq_true rfl)) dX2_addDuty_138 (fun u H locs h hP hD hS => ?_)
          obtain ⟨b138, rfl⟩ : ∃ z, z = u := ⟨_, rfl⟩
          have hP : va_P D vwCl (wD cI dA bA aA tA (b138, d.2.1, T127, d.2.2.2.1, d.2.2.2.2)) H := hP
          have hD : va_D A (wD cI dA bA aA tA (b138, d.2.1, T127, d.2.2.2.1, d.2.2.2.2)) := hD
          refine lv_iload hx hb dX2_addDuty_141 (lv_at hl 0 rfl) ?_
          exact vx_ret (zW_iret C (r127, (b138, d.2.1, T127, d.2.2.2.1, d.2.2.2.2)) rfl h hP hD hS (Nat.le_of_ble_eq_true rfl) (Nat.le_of_ble_eq_true rfl) dX2_addDuty_143)
        · have h := h.2 c99
          exact z_throw hs0 hfl C hnt hG th_X2_68 hP hS hl.1 dX2_addDuty_102 dX2_addDuty_105 dX2_addDuty_106 dX2_addDuty_108 dX2_addDuty_111 (Nat.le_of_ble_eq_true rfl) (Nat.le_of_ble_eq_true rfl) (Nat.le_of_ble_eq_true rfl) (Nat.le_of_ble_eq_true rfl) h (Nat.le_of_ble_eq_true rfl) (Nat.le_of_ble_eq_true rfl)
      · have h := h.2 c77
        exact z_throw hs0 hfl C hnt hG th_X2_62 hP hS hl.1 dX2_addDuty_80 dX2_addDuty_83 dX2_addDuty_84 dX2_addDuty_86 dX2_addDuty_89 (Nat.le_of_ble_eq_true rfl) (Nat.le_of_ble_eq_true rfl) (Nat.le_of_ble_eq_true rfl) (Nat.le_of_ble_eq_true rfl) h (Nat.le_of_ble_eq_true rfl) (Nat.le_of_ble_eq_true rfl)
    · have h := h.1 c24
      exact z_throw hs0 hfl C hnt hG th_X2_56 hP hS hl.1 dX2_addDuty_27 dX2_addDuty_30 dX2_addDuty_31 dX2_addDuty_33 dX2_addDuty_36 (Nat.le_of_ble_eq_true rfl) (Nat.le_of_ble_eq_true rfl) (Nat.le_of_ble_eq_true rfl) (Nat.le_of_ble_eq_true rfl) h (Nat.le_of_ble_eq_true rfl) (Nat.le_of_ble_eq_true rfl)

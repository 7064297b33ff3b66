/-! THE TEXT OF A DUTY, in the reference -/
theorem q531 : (Jvm.Cond.methodLink "PactClocksModel" (142 : Nat) ({ cls := "java/lang/StringBuilder", name := "setLength", desc := "(I)V" } : Jvm.MethodName)) ∈ lw_all := mt5 39 (by decide +kernel) (by decide +kernel)
theorem q532 : (Jvm.Cond.methodLink "PactClocksModel" (145 : Nat) ({ cls := "java/lang/StringBuilder", name := "append", desc := "(I)Ljava/lang/StringBuilder;" } : Jvm.MethodName)) ∈ lw_all := mt5 162 (by decide +kernel) (by decide +kernel)
theorem q533 : (Jvm.Cond.methodLink "PactClocksModel" (151 : Nat) ({ cls := "java/lang/StringBuilder", name := "append", desc := "(Ljava/lang/String;)Ljava/lang/StringBuilder;" } : Jvm.MethodName)) ∈ lw_all := mt5 164 (by decide +kernel) (by decide +kernel)
theorem q534 : (Jvm.Cond.methodLink "PactClocksModel" (158 : Nat) ({ cls := "java/lang/StringBuilder", name := "append", desc := "(C)Ljava/lang/StringBuilder;" } : Jvm.MethodName)) ∈ lw_all := mt5 167 (by decide +kernel) (by decide +kernel)
theorem q535 : (Jvm.Cond.code ({ cls := "java/lang/StringBuilder", name := "setLength", desc := "(I)V" } : Jvm.MethodName) prog_17_method_89_code (2 : Nat) (Option.none : Option Jvm.ClassFile.FieldType)) ∈ lw_all := mt5 42 (by decide +kernel) (by decide +kernel)
theorem q536 : (Jvm.Cond.instanceMethod ({ cls := "java/lang/StringBuilder", name := "setLength", desc := "(I)V" } : Jvm.MethodName)) ∈ lw_all := mt5 40 (by decide +kernel) (by decide +kernel)
theorem q537 : (Jvm.Cond.selects "java/lang/StringBuilder" ({ cls := "java/lang/StringBuilder", name := "setLength", desc := "(I)V" } : Jvm.MethodName) ({ cls := "java/lang/StringBuilder", name := "setLength", desc := "(I)V" } : Jvm.MethodName)) ∈ lw_all := mt5 41 (by decide +kernel) (by decide +kernel)
theorem q538 : (Jvm.Cond.methodLink "PactClocksModel" (161 : Nat) ({ cls := "PactClocksModel", name := "write", desc := "(I)V" } : Jvm.MethodName)) ∈ lw_all := mt5 35 (by decide +kernel) (by decide +kernel)
theorem q539 : (Jvm.Cond.methodLink "PactClocksModel" (164 : Nat) ({ cls := "java/lang/StringBuilder", name := "length", desc := "()I" } : Jvm.MethodName)) ∈ lw_all := mt5 168 (by decide +kernel) (by decide +kernel)
theorem q540 : (Jvm.Cond.code ({ cls := "PactClocksModel", name := "write", desc := "(I)V" } : Jvm.MethodName) prog_5_method_47_code (2 : Nat) (Option.none : Option Jvm.ClassFile.FieldType)) ∈ lw_all := mt5 38 (by decide +kernel) (by decide +kernel)
theorem q541 : (Jvm.Cond.instanceMethod ({ cls := "PactClocksModel", name := "write", desc := "(I)V" } : Jvm.MethodName)) ∈ lw_all := mt5 37 (by decide +kernel) (by decide +kernel)
theorem q542 : (Cond.selects "PactClocksModel" (⟨"PactClocksModel", "write", "(I)V"⟩ : MethodName) (⟨"PactClocksModel", "write", "(I)V"⟩ : MethodName)) ∈ lw_all := mt0 33 (by decide +kernel) (by decide +kernel)
theorem q543 : (Jvm.Cond.methodLink "PactClocksModel" (168 : Nat) ({ cls := "PactClocksModel", name := "written", desc := "(I)I" } : Jvm.MethodName)) ∈ lw_all := mt5 31 (by decide +kernel) (by decide +kernel)
theorem q544 : (Jvm.Cond.code ({ cls := "PactClocksModel", name := "written", desc := "(I)I" } : Jvm.MethodName) prog_5_method_48_code (2 : Nat) (Option.some Jvm.ClassFile.FieldType.int)) ∈ lw_all := mt5 34 (by decide +kernel) (by decide +kernel)
theorem q545 : (Jvm.Cond.instanceMethod ({ cls := "PactClocksModel", name := "written", desc := "(I)I" } : Jvm.MethodName)) ∈ lw_all := mt5 33 (by decide +kernel) (by decide +kernel)
theorem q546 : (Cond.selects "PactClocksModel" (⟨"PactClocksModel", "written", "(I)I"⟩ : MethodName) (⟨"PactClocksModel", "written", "(I)I"⟩ : MethodName)) ∈ lw_all := mt0 32 (by decide +kernel) (by decide +kernel)
theorem q547 : (Jvm.Cond.methodLink "PactClocksModel" (171 : Nat) ({ cls := "java/lang/StringBuilder", name := "charAt", desc := "(I)C" } : Jvm.MethodName)) ∈ lw_all := mt5 177 (by decide +kernel) (by decide +kernel)
theorem q548 : (Jvm.Cond.methodLink "PactClocksModel" (175 : Nat) ({ cls := "PactClocksModel", name := "seal", desc := "(I)I" } : Jvm.MethodName)) ∈ lw_all := mt5 173 (by decide +kernel) (by decide +kernel)
theorem q549 : (Jvm.Cond.code ({ cls := "PactClocksModel", name := "seal", desc := "(I)I" } : Jvm.MethodName) prog_5_method_50_code (4 : Nat) (Option.some Jvm.ClassFile.FieldType.int)) ∈ lw_all := mt5 176 (by decide +kernel) (by decide +kernel)
theorem q550 : (Jvm.Cond.instanceMethod ({ cls := "PactClocksModel", name := "seal", desc := "(I)I" } : Jvm.MethodName)) ∈ lw_all := mt5 175 (by decide +kernel) (by decide +kernel)
theorem q551 : (Cond.selects "PactClocksModel" (⟨"PactClocksModel", "seal", "(I)I"⟩ : MethodName) (⟨"PactClocksModel", "seal", "(I)I"⟩ : MethodName)) ∈ lw_all := mt0 34 (by decide +kernel) (by decide +kernel)
theorem v_J4_setLength_d00df : zV yJ4_setLength_d00df cJ4_setLength_d00df 2 none 1 := ⟨q536, q537, q487, q535, by decide +kernel, by decide +kernel, by decide +kernel⟩
theorem v_X3_write : zV yX3_write cX3_write 2 none 1 := ⟨q541, q542, q63, q540, by decide +kernel, by decide +kernel, by decide +kernel⟩
theorem v_X3_written : zV yX3_written cX3_written 2 (some .int) 1 := ⟨q545, q546, q63, q544, by decide +kernel, by decide +kernel, by decide +kernel⟩
theorem v_X3_seal : zV yX3_seal cX3_seal 4 (some .int) 1 := ⟨q550, q551, q63, q549, by decide +kernel, by decide +kernel, by decide +kernel⟩
def sx_X3_149 : List Int32 := [32, 111, 119, 101, 115, 32]
theorem sz_X3_149 : zk_has (.string RX3 149) sx_X3_149 := ⟨by decide +kernel, by decide +kernel, by decide +kernel, by decide +kernel, fun j hj => by
  have hj : j < 6 := hj
  rcases (show j = 0 ∨ j = 1 ∨ j = 2 ∨ j = 3 ∨ j = 4 ∨ j = 5 by omega) with rfl | rfl | rfl | rfl | rfl | rfl <;> decide +kernel⟩
theorem sr_X3_149 : Cond.stringRef RX3 149 " owes " ∈ lw_tbl := List.mem_append_right _ (List.mem_append_right _ (List.mem_append_right _ (List.mem_append_right _ (List.mem_append_right _ (List.mem_append_left _ (List.mem_of_getElem? (i := 163) (by decide +kernel)))))))
def sx_X3_154 : List Int32 := [32, 116, 111, 32]
theorem sz_X3_154 : zk_has (.string RX3 154) sx_X3_154 := ⟨by decide +kernel, by decide +kernel, by decide +kernel, by decide +kernel, fun j hj => by
  have hj : j < 4 := hj
  rcases (show j = 0 ∨ j = 1 ∨ j = 2 ∨ j = 3 by omega) with rfl | rfl | rfl | rfl <;> decide +kernel⟩
theorem sr_X3_154 : Cond.stringRef RX3 154 " to " ∈ lw_tbl := List.mem_append_right _ (List.mem_append_right _ (List.mem_append_right _ (List.mem_append_right _ (List.mem_append_right _ (List.mem_append_left _ (List.mem_of_getElem? (i := 165) (by decide +kernel)))))))
def sx_X3_156 : List Int32 := [32, 97, 102, 116, 101, 114, 32]
theorem sz_X3_156 : zk_has (.string RX3 156) sx_X3_156 := ⟨by decide +kernel, by decide +kernel, by decide +kernel, by decide +kernel, fun j hj => by
  have hj : j < 7 := hj
  rcases (show j = 0 ∨ j = 1 ∨ j = 2 ∨ j = 3 ∨ j = 4 ∨ j = 5 ∨ j = 6 by omega) with rfl | rfl | rfl | rfl | rfl | rfl | rfl <;> decide +kernel⟩
theorem sr_X3_156 : Cond.stringRef RX3 156 " after " ∈ lw_tbl := List.mem_append_right _ (List.mem_append_right _ (List.mem_append_right _ (List.mem_append_right _ (List.mem_append_right _ (List.mem_append_left _ (List.mem_of_getElem? (i := 166) (by decide +kernel)))))))
def wpX3_write (post : MS → SS → Prop) (mo : MS) (x : SS) (p0 : Int32) : Prop := wpJ4_setLength_d00df (fun x5 => vp_in p0 20 ∧ (wpJ4_append_bf812 (fun x18 => wpJ4_append_15ec4 (fun x23 => vp_in p0 20 ∧ (wpJ4_append_bf812 (fun x32 => wpJ4_append_15ec4 (fun x37 => vp_in p0 20 ∧ (wpJ4_append_bf812 (fun x46 => vp_in p0 20 ∧ (((mo.2.2.2.2.2.2.2.2.2.1 p0.toNatClampNeg) = (-1) → wpJ4_append_cf468 (fun x85 => post mo x85) x46 46) ∧ (¬ (mo.2.2.2.2.2.2.2.2.2.1 p0.toNatClampNeg) = (-1) → wpJ4_append_15ec4 (fun x66 => vp_in p0 20 ∧ (wpJ4_append_bf812 (fun x75 => wpJ4_append_cf468 (fun x85 => post mo x85) x75 46) x66 (mo.2.2.2.2.2.2.2.2.2.1 p0.toNatClampNeg))) sx_X3_156.length (fun j : Nat => sx_X3_156.getD j 0) x46))) x37 (mo.2.2.2.2.1 p0.toNatClampNeg))) sx_X3_154.length (fun j : Nat => sx_X3_154.getD j 0) x32) x23 (mo.2.2.2.2.2.1 p0.toNatClampNeg))) sx_X3_149.length (fun j : Nat => sx_X3_149.getD j 0) x18) x5 (mo.2.2.2.1 p0.toNatClampNeg))) x 0
set_option maxHeartbeats 4000000 in
set_option maxRecDepth 100000 in
theorem c_X3_write {l : Launch} (hfl : l.stackTraces = false) {s0 : State} (hs0 : zS s0) (D : va_G) (cI cB cJ : ClassId) (mA : Nat → Nat) (mo : MS) (x : SS) (p0 : Int32) {post : MS → SS → Prop} (h : wpX3_write post mo x p0) : zW s0 l D (zty cI cB cJ) yX3_write cX3_write 2 none 7 9 306 [.ref (mA 0), .int p0] (wM cI mA mo ++ wS cB (fun _ : Nat => mA 10) x) (fun _ : MS × SS => none) (fun u : MS × SS => post u.1 u.2) (fun u : MS × SS => wM cI mA u.1 ++ wS cB (fun _ : Nat => mA 10) u.2) := by
  refine zW_intro (by decide +kernel) (Nat.le_of_ble_eq_true rfl) ?_
  intro p e s m below meth c A C hnm hA hG hP hD hS ls hl
  have C : zC D (zty cI cB cJ) p s m ([.ref (mA 0), .int p0] : List Value).toArray meth c cX3_write RX3 none 2 := C
  have hx := C.1
  have hb := C.2.1
  have hts := C.2.2.1
  have hown := C.2.2.2.1
  have hml := C.2.2.2.2.2.1
  have hK := C.2.2.2.2.2.2.2
  have hl : lv_has ls 2 [(0, .ref (mA 0)), (1, .int p0)] := hl
  have hP : va_P D vwCl (wM cI mA mo ++ wS cB (fun _ : Nat => mA 10) x) s.heap := hP
  have hD : va_D A (wM cI mA mo ++ wS cB (fun _ : Nat => mA 10) x) := hD
  unfold wpX3_write at h
  refine lv_aload_n hx hb dX3_write_0 rfl (lv_at hl 0 rfl) ?_
  refine z_get C f_X3_40 hP (q0 := 0) rfl rfl dX3_write_1 ?_
  refine lv_iconst (v := 0) hx hb dX3_write_4 (by decide) ?_
  refine z_WV (As := [.int 0]) (rest := []) (wr := (List.filterMap (fun i => (wM cI mA mo ++ wS cB (fun _ : Nat => mA 10) x)[i]?) [0, 1, 2, 3, 4, 5, 6, 7, 8, 9])) (wN := (fun u : SS => wM cI mA mo ++ wS cB (fun _ : Nat => mA 10) u)) [10, 11] [0, 1, 2, 3, 4, 5, 6, 7, 8, 9] [0, 1, 2, 3, 4, 5, 6, 7, 8, 9, 10, 11] C hG hA hP hD hS (c_J4_setLength_d00df hfl hs0 D cI cB cJ (fun _ : Nat => mA 10) x 0 h) q531 v_J4_setLength_d00df rfl rfl ⟨by decide, by decide, by decide⟩ (by decide) (fun _ => rfl) rfl rfl rfl ⟨(Nat.le_of_ble_eq_true rfl), (Nat.le_of_ble_eq_true rfl)⟩ ⟨(Nat.le_of_ble_eq_true rfl), (Nat.le_of_ble_eq_true rfl)⟩ hl.1 rfl (lv_room (Nat.le_of_ble_eq_true rfl)) dX3_write_5 (fun u H locs h hP hD hS => ?_)
  obtain ⟨x5, rfl⟩ : ∃ z, z = u := ⟨_, rfl⟩
  have hP : va_P D vwCl (wM cI mA mo ++ wS cB (fun _ : Nat => mA 10) x5) H := hP
  have hD : va_D A (wM cI mA mo ++ wS cB (fun _ : Nat => mA 10) x5) := hD
  refine lv_aload_n hx hb dX3_write_8 rfl (lv_at hl 0 rfl) ?_
  refine z_get C f_X3_40 hP (q0 := 0) rfl rfl dX3_write_9 ?_
  refine lv_aload_n hx hb dX3_write_12 rfl (lv_at hl 0 rfl) ?_
  refine z_get C f_X3_9 hP (q0 := 0) rfl rfl dX3_write_13 ?_
  refine lv_iload_n hx hb dX3_write_16 rfl (lv_at hl 1 rfl) ?_
  obtain ⟨g9, h⟩ := h
  refine va_iald hx hb hK hP 1 0 rfl rfl g9 dX3_write_17 ?_
  refine z_WV (As := [.int (mo.2.2.2.1 p0.toNatClampNeg)]) (rest := []) (wr := (List.filterMap (fun i => (wM cI mA mo ++ wS cB (fun _ : Nat => mA 10) x5)[i]?) [0, 1, 2, 3, 4, 5, 6, 7, 8, 9])) (wN := (fun u : SS => wM cI mA mo ++ wS cB (fun _ : Nat => mA 10) u)) [10, 11] [0, 1, 2, 3, 4, 5, 6, 7, 8, 9] [0, 1, 2, 3, 4, 5, 6, 7, 8, 9, 10, 11] C hG hA hP hD hS (c_J4_append_bf812 hfl hs0 D cI cB cJ (fun _ : Nat => mA 10) x5 (mo.2.2.2.1 p0.toNatClampNeg) h) q532 v_J4_append_bf812 rfl rfl ⟨by decide, by decide, by decide⟩ (by decide) (fun _ => rfl) rfl rfl rfl ⟨(Nat.le_of_ble_eq_true rfl), (Nat.le_of_ble_eq_true rfl)⟩ ⟨(Nat.le_of_ble_eq_true rfl), (Nat.le_of_ble_eq_true rfl)⟩ hl.1 rfl (lv_room (Nat.le_of_ble_eq_true rfl)) dX3_write_18 (fun u H locs h hP hD hS => ?_)
  obtain ⟨x18, rfl⟩ : ∃ z, z = u := ⟨_, rfl⟩
  have hP : va_P D vwCl (wM cI mA mo ++ wS cB (fun _ : Nat => mA 10) x18) H := hP
  have hD : va_D A (wM cI mA mo ++ wS cB (fun _ : Nat => mA 10) x18) := hD
  obtain ⟨k21, v21, hk21, hr21⟩ := zk_of hs0 sz_X3_149 (by decide) sr_X3_149
  refine va_ldcS hx hb hown (hr21 s hG.1) dX3_write_21 ?_
  refine z_WV (As := [.ref k21]) (rest := []) (wr := (List.filterMap (fun i => (wM cI mA mo ++ wS cB (fun _ : Nat => mA 10) x18)[i]?) [0, 1, 2, 3, 4, 5, 6, 7, 8, 9])) (wN := (fun u : SS => wM cI mA mo ++ wS cB (fun _ : Nat => mA 10) u)) [10, 11] [0, 1, 2, 3, 4, 5, 6, 7, 8, 9] [0, 1, 2, 3, 4, 5, 6, 7, 8, 9, 10, 11] C hG hA hP hD hS (c_J4_append_15ec4 hfl hs0 D cI cB cJ (fun _ : Nat => mA 10) (fun i : Nat => [k21, v21].getD i 0) sx_X3_149.length (fun j : Nat => sx_X3_149.getD j 0) x18 hk21 h) q533 v_J4_append_15ec4 rfl rfl ⟨by decide, by decide, by decide⟩ (by decide) (fun _ => rfl) rfl rfl rfl ⟨(Nat.le_of_ble_eq_true rfl), (Nat.le_of_ble_eq_true rfl)⟩ ⟨(Nat.le_of_ble_eq_true rfl), (Nat.le_of_ble_eq_true rfl)⟩ hl.1 rfl (lv_room (Nat.le_of_ble_eq_true rfl)) dX3_write_23 (fun u H locs h hP hD hS => ?_)
  obtain ⟨x23, rfl⟩ : ∃ z, z = u := ⟨_, rfl⟩
  have hP : va_P D vwCl (wM cI mA mo ++ wS cB (fun _ : Nat => mA 10) x23) H := hP
  have hD : va_D A (wM cI mA mo ++ wS cB (fun _ : Nat => mA 10) x23) := hD
  refine lv_aload_n hx hb dX3_write_26 rfl (lv_at hl 0 rfl) ?_
  refine z_get C f_X3_16 hP (q0 := 0) rfl rfl dX3_write_27 ?_
  refine lv_iload_n hx hb dX3_write_30 rfl (lv_at hl 1 rfl) ?_
  obtain ⟨g9, h⟩ := h
  refine va_iald hx hb hK hP 3 0 rfl rfl g9 dX3_write_31 ?_
  refine z_WV (As := [.int (mo.2.2.2.2.2.1 p0.toNatClampNeg)]) (rest := []) (wr := (List.filterMap (fun i => (wM cI mA mo ++ wS cB (fun _ : Nat => mA 10) x23)[i]?) [0, 1, 2, 3, 4, 5, 6, 7, 8, 9])) (wN := (fun u : SS => wM cI mA mo ++ wS cB (fun _ : Nat => mA 10) u)) [10, 11] [0, 1, 2, 3, 4, 5, 6, 7, 8, 9] [0, 1, 2, 3, 4, 5, 6, 7, 8, 9, 10, 11] C hG hA hP hD hS (c_J4_append_bf812 hfl hs0 D cI cB cJ (fun _ : Nat => mA 10) x23 (mo.2.2.2.2.2.1 p0.toNatClampNeg) h) q532 v_J4_append_bf812 rfl rfl ⟨by decide, by decide, by decide⟩ (by decide) (fun _ => rfl) rfl rfl rfl ⟨(Nat.le_of_ble_eq_true rfl), (Nat.le_of_ble_eq_true rfl)⟩ ⟨(Nat.le_of_ble_eq_true rfl), (Nat.le_of_ble_eq_true rfl)⟩ hl.1 rfl (lv_room (Nat.le_of_ble_eq_true rfl)) dX3_write_32 (fun u H locs h hP hD hS => ?_)
  obtain ⟨x32, rfl⟩ : ∃ z, z = u := ⟨_, rfl⟩
  have hP : va_P D vwCl (wM cI mA mo ++ wS cB (fun _ : Nat => mA 10) x32) H := hP
  have hD : va_D A (wM cI mA mo ++ wS cB (fun _ : Nat => mA 10) x32) := hD
  obtain ⟨k35, v35, hk35, hr35⟩ := zk_of hs0 sz_X3_154 (by decide) sr_X3_154
  refine va_ldcS hx hb hown (hr35 s hG.1) dX3_write_35 ?_
  refine z_WV (As := [.ref k35]) (rest := []) (wr := (List.filterMap (fun i => (wM cI mA mo ++ wS cB (fun _ : Nat => mA 10) x32)[i]?) [0, 1, 2, 3, 4, 5, 6, 7, 8, 9])) (wN := (fun u : SS => wM cI mA mo ++ wS cB (fun _ : Nat => mA 10) u)) [10, 11] [0, 1, 2, 3, 4, 5, 6, 7, 8, 9] [0, 1, 2, 3, 4, 5, 6, 7, 8, 9, 10, 11] C hG hA hP hD hS (c_J4_append_15ec4 hfl hs0 D cI cB cJ (fun _ : Nat => mA 10) (fun i : Nat => [k35, v35].getD i 0) sx_X3_154.length (fun j : Nat => sx_X3_154.getD j 0) x32 hk35 h) q533 v_J4_append_15ec4 rfl rfl ⟨by decide, by decide, by decide⟩ (by decide) (fun _ => rfl) rfl rfl rfl ⟨(Nat.le_of_ble_eq_true rfl), (Nat.le_of_ble_eq_true rfl)⟩ ⟨(Nat.le_of_ble_eq_true rfl), (Nat.le_of_ble_eq_true rfl)⟩ hl.1 rfl (lv_room (Nat.le_of_ble_eq_true rfl)) dX3_write_37 (fun u H locs h hP hD hS => ?_)
  obtain ⟨x37, rfl⟩ : ∃ z, z = u := ⟨_, rfl⟩
  have hP : va_P D vwCl (wM cI mA mo ++ wS cB (fun _ : Nat => mA 10) x37) H := hP
  have hD : va_D A (wM cI mA mo ++ wS cB (fun _ : Nat => mA 10) x37) := hD
  refine lv_aload_n hx hb dX3_write_40 rfl (lv_at hl 0 rfl) ?_
  refine z_get C f_X3_13 hP (q0 := 0) rfl rfl dX3_write_41 ?_
  refine lv_iload_n hx hb dX3_write_44 rfl (lv_at hl 1 rfl) ?_
  obtain ⟨g9, h⟩ := h
  refine va_iald hx hb hK hP 2 0 rfl rfl g9 dX3_write_45 ?_
  refine z_WV (As := [.int (mo.2.2.2.2.1 p0.toNatClampNeg)]) (rest := []) (wr := (List.filterMap (fun i => (wM cI mA mo ++ wS cB (fun _ : Nat => mA 10) x37)[i]?) [0, 1, 2, 3, 4, 5, 6, 7, 8, 9])) (wN := (fun u : SS => wM cI mA mo ++ wS cB (fun _ : Nat => mA 10) u)) [10, 11] [0, 1, 2, 3, 4, 5, 6, 7, 8, 9] [0, 1, 2, 3, 4, 5, 6, 7, 8, 9, 10, 11] C hG hA hP hD hS (c_J4_append_bf812 hfl hs0 D cI cB cJ (fun _ : Nat => mA 10) x37 (mo.2.2.2.2.1 p0.toNatClampNeg) h) q532 v_J4_append_bf812 rfl rfl ⟨by decide, by decide, by decide⟩ (by decide) (fun _ => rfl) rfl rfl rfl ⟨(Nat.le_of_ble_eq_true rfl), (Nat.le_of_ble_eq_true rfl)⟩ ⟨(Nat.le_of_ble_eq_true rfl), (Nat.le_of_ble_eq_true rfl)⟩ hl.1 rfl (lv_room (Nat.le_of_ble_eq_true rfl)) dX3_write_46 (fun u H locs h hP hD hS => ?_)
  obtain ⟨x46, rfl⟩ : ∃ z, z = u := ⟨_, rfl⟩
  have hP : va_P D vwCl (wM cI mA mo ++ wS cB (fun _ : Nat => mA 10) x46) H := hP
  have hD : va_D A (wM cI mA mo ++ wS cB (fun _ : Nat => mA 10) x46) := hD
  refine lv_pop hx hb dX3_write_49 rfl ?_
  refine lv_aload_n hx hb dX3_write_50 rfl (lv_at hl 0 rfl) ?_
  refine z_get C f_X3_28 hP (q0 := 0) rfl rfl dX3_write_51 ?_
  refine lv_iload_n hx hb dX3_write_54 rfl (lv_at hl 1 rfl) ?_
  obtain ⟨g9, h⟩ := h
  refine va_iald hx hb hK hP 7 0 rfl rfl g9 dX3_write_55 ?_
  refine lv_iconst (v := (-1)) hx hb dX3_write_56 (by decide) ?_
  refine lv_icmp_eq (tgt := 79) hx hb dX3_write_57 (by decide) (fun c57 => ?_) (fun c57 => ?_)
  · have h := h.1 c57
    refine lv_aload_n hx hb dX3_write_79 rfl (lv_at hl 0 rfl) ?_
    refine z_get C f_X3_40 hP (q0 := 0) rfl rfl dX3_write_80 ?_
    refine lv_bipush (v := 46) hx hb dX3_write_83 (by decide) ?_
    refine z_WV (As := [.int 46]) (rest := []) (wr := (List.filterMap (fun i => (wM cI mA mo ++ wS cB (fun _ : Nat => mA 10) x46)[i]?) [0, 1, 2, 3, 4, 5, 6, 7, 8, 9])) (wN := (fun u : SS => wM cI mA mo ++ wS cB (fun _ : Nat => mA 10) u)) [10, 11] [0, 1, 2, 3, 4, 5, 6, 7, 8, 9] [0, 1, 2, 3, 4, 5, 6, 7, 8, 9, 10, 11] C hG hA hP hD hS (c_J4_append_cf468 hfl hs0 D cI cB cJ (fun _ : Nat => mA 10) x46 46 h) q534 v_J4_append_cf468 rfl rfl ⟨by decide, by decide, by decide⟩ (by decide) (fun _ => rfl) rfl rfl rfl ⟨(Nat.le_of_ble_eq_true rfl), (Nat.le_of_ble_eq_true rfl)⟩ ⟨(Nat.le_of_ble_eq_true rfl), (Nat.le_of_ble_eq_true rfl)⟩ hl.1 rfl (lv_room (Nat.le_of_ble_eq_true rfl)) dX3_write_85 (fun u H locs h hP hD hS => ?_)
    obtain ⟨x85, rfl⟩ : ∃ z, z = u := ⟨_, rfl⟩
    have hP : va_P D vwCl (wM cI mA mo ++ wS cB (fun _ : Nat => mA 10) x85) H := hP
    have hD : va_D A (wM cI mA mo ++ wS cB (fun _ : Nat => mA 10) x85) := hD
    refine lv_pop hx hb dX3_write_88 rfl ?_
    exact zW_vret C (mo, x85) rfl h hP hD hS (Nat.le_of_ble_eq_true rfl) (Nat.le_of_ble_eq_true rfl) dX3_write_89
  · have h := h.2 c57
    refine lv_aload_n hx hb dX3_write_60 rfl (lv_at hl 0 rfl) ?_
    refine z_get C f_X3_40 hP (q0 := 0) rfl rfl dX3_write_61 ?_
    obtain ⟨k64, v64, hk64, hr64⟩ := zk_of hs0 sz_X3_156 (by decide) sr_X3_156
    refine va_ldcS hx hb hown (hr64 s hG.1) dX3_write_64 ?_
    refine z_WV (As := [.ref k64]) (rest := []) (wr := (List.filterMap (fun i => (wM cI mA mo ++ wS cB (fun _ : Nat => mA 10) x46)[i]?) [0, 1, 2, 3, 4, 5, 6, 7, 8, 9])) (wN := (fun u : SS => wM cI mA mo ++ wS cB (fun _ : Nat => mA 10) u)) [10, 11] [0, 1, 2, 3, 4, 5, 6, 7, 8, 9] [0, 1, 2, 3, 4, 5, 6, 7, 8, 9, 10, 11] C hG hA hP hD hS (c_J4_append_15ec4 hfl hs0 D cI cB cJ (fun _ : Nat => mA 10) (fun i : Nat => [k64, v64].getD i 0) sx_X3_156.length (fun j : Nat => sx_X3_156.getD j 0) x46 hk64 h) q533 v_J4_append_15ec4 rfl rfl ⟨by decide, by decide, by decide⟩ (by decide) (fun _ => rfl) rfl rfl rfl ⟨(Nat.le_of_ble_eq_true rfl), (Nat.le_of_ble_eq_true rfl)⟩ ⟨(Nat.le_of_ble_eq_true rfl), (Nat.le_of_ble_eq_true rfl)⟩ hl.1 rfl (lv_room (Nat.le_of_ble_eq_true rfl)) dX3_write_66 (fun u H locs h hP hD hS => ?_)
    obtain ⟨x66, rfl⟩ : ∃ z, z = u := ⟨_, rfl⟩
    have hP : va_P D vwCl (wM cI mA mo ++ wS cB (fun _ : Nat => mA 10) x66) H := hP
    have hD : va_D A (wM cI mA mo ++ wS cB (fun _ : Nat => mA 10) x66) := hD
    refine lv_aload_n hx hb dX3_write_69 rfl (lv_at hl 0 rfl) ?_
    refine z_get C f_X3_28 hP (q0 := 0) rfl rfl dX3_write_70 ?_
    refine lv_iload_n hx hb dX3_write_73 rfl (lv_at hl 1 rfl) ?_
    obtain ⟨g9, h⟩ := h
    refine va_iald hx hb hK hP 7 0 rfl rfl g9 dX3_write_74 ?_
    refine z_WV (As := [.int (mo.2.2.2.2.2.2.2.2.2.1 p0.toNatClampNeg)]) (rest := []) (wr := (List.filterMap (fun i => (wM cI mA mo ++ wS cB (fun _ : Nat => mA 10) x66)[i]?) [0, 1, 2, 3, 4, 5, 6, 7, 8, 9])) (wN := (fun u : SS => wM cI mA mo ++ wS cB (fun _ : Nat => mA 10) u)) [10, 11] [0, 1, 2, 3, 4, 5, 6, 7, 8, 9] [0, 1, 2, 3, 4, 5, 6, 7, 8, 9, 10, 11] C hG hA hP hD hS (c_J4_append_bf812 hfl hs0 D cI cB cJ (fun _ : Nat => mA 10) x66 (mo.2.2.2.2.2.2.2.2.2.1 p0.toNatClampNeg) h) q532 v_J4_append_bf812 rfl rfl ⟨by decide, by decide, by decide⟩ (by decide) (fun _ => rfl) rfl rfl rfl ⟨(Nat.le_of_ble_eq_true rfl), (Nat.le_of_ble_eq_true rfl)⟩ ⟨(Nat.le_of_ble_eq_true rfl), (Nat.le_of_ble_eq_true rfl)⟩ hl.1 rfl (lv_room (Nat.le_of_ble_eq_true rfl)) dX3_write_75 (fun u H locs h hP hD hS => ?_)
    obtain ⟨x75, rfl⟩ : ∃ z, z = u := ⟨_, rfl⟩
    have hP : va_P D vwCl (wM cI mA mo ++ wS cB (fun _ : Nat => mA 10) x75) H := hP
    have hD : va_D A (wM cI mA mo ++ wS cB (fun _ : Nat => mA 10) x75) := hD
    refine lv_pop hx hb dX3_write_78 rfl ?_
    refine lv_aload_n hx hb dX3_write_79 rfl (lv_at hl 0 rfl) ?_
    refine z_get C f_X3_40 hP (q0 := 0) rfl rfl dX3_write_80 ?_
    refine lv_bipush (v := 46) hx hb dX3_write_83 (by decide) ?_
    refine z_WV (As := [.int 46]) (rest := []) (wr := (List.filterMap (fun i => (wM cI mA mo ++ wS cB (fun _ : Nat => mA 10) x75)[i]?) [0, 1, 2, 3, 4, 5, 6, 7, 8, 9])) (wN := (fun u : SS => wM cI mA mo ++ wS cB (fun _ : Nat => mA 10) u)) [10, 11] [0, 1, 2, 3, 4, 5, 6, 7, 8, 9] [0, 1, 2, 3, 4, 5, 6, 7, 8, 9, 10, 11] C hG hA hP hD hS (c_J4_append_cf468 hfl hs0 D cI cB cJ (fun _ : Nat => mA 10) x75 46 h) q534 v_J4_append_cf468 rfl rfl ⟨by decide, by decide, by decide⟩ (by decide) (fun _ => rfl) rfl rfl rfl ⟨(Nat.le_of_ble_eq_true rfl), (Nat.le_of_ble_eq_true rfl)⟩ ⟨(Nat.le_of_ble_eq_true rfl), (Nat.le_of_ble_eq_true rfl)⟩ hl.1 rfl (lv_room (Nat.le_of_ble_eq_true rfl)) dX3_write_85 (fun u H locs h hP hD hS => ?_)
    obtain ⟨x85, rfl⟩ : ∃ z, z = u := ⟨_, rfl⟩
    have hP : va_P D vwCl (wM cI mA mo ++ wS cB (fun _ : Nat => mA 10) x85) H := hP
    have hD : va_D A (wM cI mA mo ++ wS cB (fun _ : Nat => mA 10) x85) := hD
    refine lv_pop hx hb dX3_write_88 rfl ?_
    exact zW_vret C (mo, x85) rfl h hP hD hS (Nat.le_of_ble_eq_true rfl) (Nat.le_of_ble_eq_true rfl) dX3_write_89
def wpX3_written (post : Int32 → MS → SS → Prop) (mo : MS) (x : SS) (p0 : Int32) : Prop := wpX3_write (fun mo2 x2 => wpJ4_length_8abf5 (fun r9 => post r9 mo2 x2) x2) mo x p0
set_option maxHeartbeats 4000000 in
set_option maxRecDepth 100000 in
theorem c_X3_written {l : Launch} (hfl : l.stackTraces = false) {s0 : State} (hs0 : zS s0) (D : va_G) (cI cB cJ : ClassId) (mA : Nat → Nat) (mo : MS) (x : SS) (p0 : Int32) {post : Int32 → MS → SS → Prop} (h : wpX3_written post mo x p0) : zW s0 l D (zty cI cB cJ) yX3_written cX3_written 2 (some .int) 8 9 306 [.ref (mA 0), .int p0] (wM cI mA mo ++ wS cB (fun _ : Nat => mA 10) x) (fun u : Int32 × MS × SS => some (Value.int u.1)) (fun u : Int32 × MS × SS => post u.1 u.2.1 u.2.2) (fun u : Int32 × MS × SS => wM cI mA u.2.1 ++ wS cB (fun _ : Nat => mA 10) u.2.2) := by
  refine zW_intro (by decide +kernel) (Nat.le_of_ble_eq_true rfl) ?_
  intro p e s m below meth c A C hnm hA hG hP hD hS ls hl
  have C : zC D (zty cI cB cJ) p s m ([.ref (mA 0), .int p0] : List Value).toArray meth c cX3_written RX3 (some .int) 2 := C
  have hx := C.1
  have hb := C.2.1
  have hts := C.2.2.1
  have hown := C.2.2.2.1
  have hml := C.2.2.2.2.2.1
  have hK := C.2.2.2.2.2.2.2
  have hl : lv_has ls 2 [(0, .ref (mA 0)), (1, .int p0)] := hl
  have hP : va_P D vwCl (wM cI mA mo ++ wS cB (fun _ : Nat => mA 10) x) s.heap := hP
  have hD : va_D A (wM cI mA mo ++ wS cB (fun _ : Nat => mA 10) x) := hD
  unfold wpX3_written at h
  refine lv_aload_n hx hb dX3_written_0 rfl (lv_at hl 0 rfl) ?_
  refine lv_iload_n hx hb dX3_written_1 rfl (lv_at hl 1 rfl) ?_
  refine z_WV (As := [.int p0]) (rest := []) (wr := ([] : va_W)) (wN := (fun u : MS × SS => wM cI mA u.1 ++ wS cB (fun _ : Nat => mA 10) u.2)) [0, 1, 2, 3, 4, 5, 6, 7, 8, 9, 10, 11] [] [0, 1, 2, 3, 4, 5, 6, 7, 8, 9, 10, 11] C hG hA hP hD hS (c_X3_write hfl hs0 D cI cB cJ mA mo x p0 h) q538 v_X3_write rfl rfl ⟨by decide, by decide, by decide⟩ (by decide) (fun _ => rfl) rfl rfl rfl ⟨(Nat.le_of_ble_eq_true rfl), (Nat.le_of_ble_eq_true rfl)⟩ ⟨(Nat.le_of_ble_eq_true rfl), (Nat.le_of_ble_eq_true rfl)⟩ hl.1 rfl (lv_room (Nat.le_of_ble_eq_true rfl)) dX3_written_2 (fun u H locs h hP hD hS => ?_)
  obtain ⟨mo2, x2⟩ := u
  have hP : va_P D vwCl (wM cI mA mo2 ++ wS cB (fun _ : Nat => mA 10) x2) H := hP
  have hD : va_D A (wM cI mA mo2 ++ wS cB (fun _ : Nat => mA 10) x2) := hD
  refine lv_aload_n hx hb dX3_written_5 rfl (lv_at hl 0 rfl) ?_
  refine z_get C f_X3_40 hP (q0 := 0) rfl rfl dX3_written_6 ?_
  refine z_RV (As := []) (rest := []) [10, 11] C (hG.kept hS.1 hS.2.1).none hP (c_J4_length_8abf5 hfl hs0 D cI cB cJ (fun _ : Nat => mA 10) x2 h) q539 v_J4_length_8abf5 rfl rfl rfl rfl ⟨(Nat.le_of_ble_eq_true rfl), (Nat.le_of_ble_eq_true rfl)⟩ ⟨(Nat.le_of_ble_eq_true rfl), (Nat.le_of_ble_eq_true rfl)⟩ hl.1 rfl (lv_room (Nat.le_of_ble_eq_true rfl)) dX3_written_9 (fun r9 h => ?_)
  exact zW_iret C (r9, mo2, x2) rfl h hP hD hS (Nat.le_of_ble_eq_true rfl) (Nat.le_of_ble_eq_true rfl) dX3_written_12
def wpX3_textLength (post : Int32 → MS → SS → Prop) (mo : MS) (x : SS) (p0 : Int32) : Prop := wpX3_isDuty (fun r7 => (r7 = 0 → wpX3_no (fun r23 mo23 => post r23 mo23 x) (0, mo.2.1, mo.2.2.1, mo.2.2.2.1, mo.2.2.2.2.1, mo.2.2.2.2.2.1, mo.2.2.2.2.2.2.1, mo.2.2.2.2.2.2.2.1, mo.2.2.2.2.2.2.2.2.1, mo.2.2.2.2.2.2.2.2.2.1, mo.2.2.2.2.2.2.2.2.2.2.1, mo.2.2.2.2.2.2.2.2.2.2.2) 1) ∧ (¬ r7 = 0 → wpX3_written (fun r15 mo15 x15 => post r15 mo15 x15) (0, mo.2.1, mo.2.2.1, mo.2.2.2.1, mo.2.2.2.2.1, mo.2.2.2.2.2.1, mo.2.2.2.2.2.2.1, mo.2.2.2.2.2.2.2.1, mo.2.2.2.2.2.2.2.2.1, mo.2.2.2.2.2.2.2.2.2.1, mo.2.2.2.2.2.2.2.2.2.2.1, mo.2.2.2.2.2.2.2.2.2.2.2) x p0)) (0, mo.2.1, mo.2.2.1, mo.2.2.2.1, mo.2.2.2.2.1, mo.2.2.2.2.2.1, mo.2.2.2.2.2.2.1, mo.2.2.2.2.2.2.2.1, mo.2.2.2.2.2.2.2.2.1, mo.2.2.2.2.2.2.2.2.2.1, mo.2.2.2.2.2.2.2.2.2.2.1, mo.2.2.2.2.2.2.2.2.2.2.2) p0
set_option maxHeartbeats 4000000 in
set_option maxRecDepth 100000 in
theorem c_X3_textLength {l : Launch} (hfl : l.stackTraces = false) {s0 : State} (hs0 : zS s0) (D : va_G) (cI cB cJ : ClassId) (mA : Nat → Nat) (mo : MS) (x : SS) (p0 : Int32) {post : Int32 → MS → SS → Prop} (h : wpX3_textLength post mo x p0) : zW s0 l D (zty cI cB cJ) yX3_textLength cX3_textLength 2 (some .int) 9 9 306 [.ref (mA 0), .int p0] (wM cI mA mo ++ wS cB (fun _ : Nat => mA 10) x) (fun u : Int32 × MS × SS => some (Value.int u.1)) (fun u : Int32 × MS × SS => post u.1 u.2.1 u.2.2) (fun u : Int32 × MS × SS => wM cI mA u.2.1 ++ wS cB (fun _ : Nat => mA 10) u.2.2) := by
  refine zW_intro (by decide +kernel) (Nat.le_of_ble_eq_true rfl) ?_
  intro p e s m below meth c A C hnm hA hG hP hD hS ls hl
  have C : zC D (zty cI cB cJ) p s m ([.ref (mA 0), .int p0] : List Value).toArray meth c cX3_textLength RX3 (some .int) 2 := C
  have hx := C.1
  have hb := C.2.1
  have hts := C.2.2.1
  have hown := C.2.2.2.1
  have hml := C.2.2.2.2.2.1
  have hK := C.2.2.2.2.2.2.2
  have hl : lv_has ls 2 [(0, .ref (mA 0)), (1, .int p0)] := hl
  have hP : va_P D vwCl (wM cI mA mo ++ wS cB (fun _ : Nat => mA 10) x) s.heap := hP
  have hD : va_D A (wM cI mA mo ++ wS cB (fun _ : Nat => mA 10) x) := hD
  unfold wpX3_textLength at h
  refine lv_aload_n hx hb dX3_textLength_0 rfl (lv_at hl 0 rfl) ?_
  refine lv_iconst (v := 0) hx hb dX3_textLength_1 (by decide) ?_
  refine z_put C f_X3_44 zt_X3 rfl rfl rfl rfl hP hD hS (q0 := 0) rfl (Nat.le_of_ble_eq_true rfl) dX3_textLength_2 (fun H locs hP hD hS => ?_)
  have hP : va_P D vwCl (wM cI mA (0, mo.2.1, mo.2.2.1, mo.2.2.2.1, mo.2.2.2.2.1, mo.2.2.2.2.2.1, mo.2.2.2.2.2.2.1, mo.2.2.2.2.2.2.2.1, mo.2.2.2.2.2.2.2.2.1, mo.2.2.2.2.2.2.2.2.2.1, mo.2.2.2.2.2.2.2.2.2.2.1, mo.2.2.2.2.2.2.2.2.2.2.2) ++ wS cB (fun _ : Nat => mA 10) x) H := hP
  have hD : va_D A (wM cI mA (0, mo.2.1, mo.2.2.1, mo.2.2.2.1, mo.2.2.2.2.1, mo.2.2.2.2.2.1, mo.2.2.2.2.2.2.1, mo.2.2.2.2.2.2.2.1, mo.2.2.2.2.2.2.2.2.1, mo.2.2.2.2.2.2.2.2.2.1, mo.2.2.2.2.2.2.2.2.2.2.1, mo.2.2.2.2.2.2.2.2.2.2.2) ++ wS cB (fun _ : Nat => mA 10) x) := hD
  refine lv_aload_n hx hb dX3_textLength_5 rfl (lv_at hl 0 rfl) ?_
  refine lv_iload_n hx hb dX3_textLength_6 rfl (lv_at hl 1 rfl) ?_
  refine z_RV (As := [.int p0]) (rest := []) [0, 1, 2, 3, 4, 5, 6, 7, 8, 9] C (hG.kept hS.1 hS.2.1).none hP (c_X3_isDuty hfl hs0 D cI cB cJ mA (0, mo.2.1, mo.2.2.1, mo.2.2.2.1, mo.2.2.2.2.1, mo.2.2.2.2.2.1, mo.2.2.2.2.2.2.1, mo.2.2.2.2.2.2.2.1, mo.2.2.2.2.2.2.2.2.1, mo.2.2.2.2.2.2.2.2.2.1, mo.2.2.2.2.2.2.2.2.2.2.1, mo.2.2.2.2.2.2.2.2.2.2.2) p0 h) q130 v_X3_isDuty rfl rfl rfl rfl ⟨(Nat.le_of_ble_eq_true rfl), (Nat.le_of_ble_eq_true rfl)⟩ ⟨(Nat.le_of_ble_eq_true rfl), (Nat.le_of_ble_eq_true rfl)⟩ hl.1 rfl (lv_room (Nat.le_of_ble_eq_true rfl)) dX3_textLength_7 (fun r7 h => ?_)
  refine lv_if_eq (tgt := 21) hx hb dX3_textLength_10 (by decide) (fun c10 => ?_) (fun c10 => ?_)
  · have h := h.1 c10
    refine lv_aload_n hx hb dX3_textLength_21 rfl (lv_at hl 0 rfl) ?_
    refine lv_iconst (v := 1) hx hb dX3_textLength_22 (by decide) ?_
    refine z_WV (As := [.int 1]) (rest := []) (wr := (List.filterMap (fun i => (wM cI mA (0, mo.2.1, mo.2.2.1, mo.2.2.2.1, mo.2.2.2.2.1, mo.2.2.2.2.2.1, mo.2.2.2.2.2.2.1, mo.2.2.2.2.2.2.2.1, mo.2.2.2.2.2.2.2.2.1, mo.2.2.2.2.2.2.2.2.2.1, mo.2.2.2.2.2.2.2.2.2.2.1, mo.2.2.2.2.2.2.2.2.2.2.2) ++ wS cB (fun _ : Nat => mA 10) x)[i]?) [10, 11])) (wN := (fun u : Int32 × MS => wM cI mA u.2 ++ wS cB (fun _ : Nat => mA 10) x)) [0, 1, 2, 3, 4, 5, 6, 7, 8, 9] [10, 11] [2, 3, 4, 5, 6, 7, 8, 9, 10, 11, 0, 1] C hG hA hP hD hS (c_X3_no hfl hs0 D cI cB cJ mA (0, mo.2.1, mo.2.2.1, mo.2.2.2.1, mo.2.2.2.2.1, mo.2.2.2.2.2.1, mo.2.2.2.2.2.2.1, mo.2.2.2.2.2.2.2.1, mo.2.2.2.2.2.2.2.2.1, mo.2.2.2.2.2.2.2.2.2.1, mo.2.2.2.2.2.2.2.2.2.2.1, mo.2.2.2.2.2.2.2.2.2.2.2) 1 h) q122 v_X3_no rfl rfl ⟨by decide, by decide, by decide⟩ (by decide) (fun _ => rfl) rfl rfl rfl ⟨(Nat.le_of_ble_eq_true rfl), (Nat.le_of_ble_eq_true rfl)⟩ ⟨(Nat.le_of_ble_eq_true rfl), (Nat.le_of_ble_eq_true rfl)⟩ hl.1 rfl (lv_room (Nat.le_of_ble_eq_true rfl)) dX3_textLength_23 (fun u H locs h hP hD hS => ?_)
    obtain ⟨r23, mo23⟩ := u
    have hP : va_P D vwCl (wM cI mA mo23 ++ wS cB (fun _ : Nat => mA 10) x) H := hP
    have hD : va_D A (wM cI mA mo23 ++ wS cB (fun _ : Nat => mA 10) x) := hD
    exact zW_iret C (r23, mo23, x) rfl h hP hD hS (Nat.le_of_ble_eq_true rfl) (Nat.le_of_ble_eq_true rfl) dX3_textLength_26
  · have h := h.2 c10
    refine lv_aload_n hx hb dX3_textLength_13 rfl (lv_at hl 0 rfl) ?_
    refine lv_iload_n hx hb dX3_textLength_14 rfl (lv_at hl 1 rfl) ?_
    refine z_WV (As := [.int p0]) (rest := []) (wr := ([] : va_W)) (wN := (fun u : Int32 × MS × SS => wM cI mA u.2.1 ++ wS cB (fun _ : Nat => mA 10) u.2.2)) [0, 1, 2, 3, 4, 5, 6, 7, 8, 9, 10, 11] [] [0, 1, 2, 3, 4, 5, 6, 7, 8, 9, 10, 11] C hG hA hP hD hS (c_X3_written hfl hs0 D cI cB cJ mA (0, mo.2.1, mo.2.2.1, mo.2.2.2.1, mo.2.2.2.2.1, mo.2.2.2.2.2.1, mo.2.2.2.2.2.2.1, mo.2.2.2.2.2.2.2.1, mo.2.2.2.2.2.2.2.2.1, mo.2.2.2.2.2.2.2.2.2.1, mo.2.2.2.2.2.2.2.2.2.2.1, mo.2.2.2.2.2.2.2.2.2.2.2) x p0 h) q543 v_X3_written rfl rfl ⟨by decide, by decide, by decide⟩ (by decide) (fun _ => rfl) rfl rfl rfl ⟨(Nat.le_of_ble_eq_true rfl), (Nat.le_of_ble_eq_true rfl)⟩ ⟨(Nat.le_of_ble_eq_true rfl), (Nat.le_of_ble_eq_true rfl)⟩ hl.1 rfl (lv_room (Nat.le_of_ble_eq_true rfl)) dX3_textLength_15 (fun u H locs h hP hD hS => ?_)
    obtain ⟨r15, mo15, x15⟩ := u
    have hP : va_P D vwCl (wM cI mA mo15 ++ wS cB (fun _ : Nat => mA 10) x15) H := hP
    have hD : va_D A (wM cI mA mo15 ++ wS cB (fun _ : Nat => mA 10) x15) := hD
    refine lv_goto (tgt := 26) hx hb dX3_textLength_18 (by decide) ?_
    exact zW_iret C (r15, mo15, x15) rfl h hP hD hS (Nat.le_of_ble_eq_true rfl) (Nat.le_of_ble_eq_true rfl) dX3_textLength_26
def wpX3_seal_b10 (post : Int32 → MS → SS → Prop) (p0 : Int32) : Nat → Int32 → Int32 → MS → SS → Prop
  | 0, _, _, _, _ => False
  | n + 1, x2, x3, mo_, x_ => wpJ4_length_8abf5 (fun r15 => (r15 ≤ x3 → post x2 mo_ x_) ∧ (¬ r15 ≤ x3 → wpJ4_charAt_5068e (fun r30 => wpX3_seal_b10 post p0 n ((x2 * 31) + r30) (x3 + 1) mo_ x_) x_ x3)) x_
def wpX3_seal (post : Int32 → MS → SS → Prop) (mo : MS) (x : SS) (p0 : Int32) : Prop := wpX3_write (fun mo2 x2 => ∃ n10 : Nat, wpX3_seal_b10 post p0 n10 11 0 mo2 x2) mo x p0
set_option maxHeartbeats 4000000 in
set_option maxRecDepth 100000 in
theorem c_X3_seal {l : Launch} (hfl : l.stackTraces = false) {s0 : State} (hs0 : zS s0) (D : va_G) (cI cB cJ : ClassId) (mA : Nat → Nat) (mo : MS) (x : SS) (p0 : Int32) {post : Int32 → MS → SS → Prop} (h : wpX3_seal post mo x p0) : zW s0 l D (zty cI cB cJ) yX3_seal cX3_seal 4 (some .int) 8 9 306 [.ref (mA 0), .int p0] (wM cI mA mo ++ wS cB (fun _ : Nat => mA 10) x) (fun u : Int32 × MS × SS => some (Value.int u.1)) (fun u : Int32 × MS × SS => post u.1 u.2.1 u.2.2) (fun u : Int32 × MS × SS => wM cI mA u.2.1 ++ wS cB (fun _ : Nat => mA 10) u.2.2) := by
  refine zW_intro (by decide +kernel) (Nat.le_of_ble_eq_true rfl) ?_
  intro p e s m below meth c A C hnm hA hG hP hD hS ls hl
  have C : zC D (zty cI cB cJ) p s m ([.ref (mA 0), .int p0] : List Value).toArray meth c cX3_seal RX3 (some .int) 4 := C
  have hx := C.1
  have hb := C.2.1
  have hts := C.2.2.1
  have hown := C.2.2.2.1
  have hml := C.2.2.2.2.2.1
  have hK := C.2.2.2.2.2.2.2
  have hl : lv_has ls 4 [(0, .ref (mA 0)), (1, .int p0)] := hl
  have hP : va_P D vwCl (wM cI mA mo ++ wS cB (fun _ : Nat => mA 10) x) s.heap := hP
  have hD : va_D A (wM cI mA mo ++ wS cB (fun _ : Nat => mA 10) x) := hD
  have k10 : ∀ (n : Nat) (x2 : Int32) (x3 : Int32) (mo_ : MS) (x_ : SS) (H : Heap) (locs : List Loc), va_P D vwCl (wM cI mA mo_ ++ wS cB (fun _ : Nat => mA 10) x_) H → va_D A (wM cI mA mo_ ++ wS cB (fun _ : Nat => mA 10) x_) → va_S A s.heap H locs → ∀ (ls : Array Slot), lv_has ls 4 [(0, .ref (mA 0)), (2, .int x2), (3, .int x3)] → wpX3_seal_b10 post p0 n x2 x3 mo_ x_ → W p l e (zr 8 9 306) s m ([.ref (mA 0), .int p0] : List Value).toArray below meth c H locs 9 306 (MQ below (zQ D (fun u : Int32 × MS × SS => some (Value.int u.1)) (fun u : Int32 × MS × SS => post u.1 u.2.1 u.2.2) (fun u : Int32 × MS × SS => wM cI mA u.2.1 ++ wS cB (fun _ : Nat => mA 10) u.2.2) A) ([.ref (mA 0), .int p0] : List Value).toArray s 9 306 A) (F0 m 10 ls []) := by
    intro n
    induction n with
    | zero =>
      intro x2 x3 mo_ x_ H locs hP hD hS ls hl h
      exact h.elim
    | succ n ih =>
      intro x2 x3 mo_ x_ H locs hP hD hS ls hl h
      rw [wpX3_seal_b10] at h
      refine lv_iload_n hx hb dX3_seal_10 rfl (lv_at hl 2 rfl) ?_
      refine lv_aload_n hx hb dX3_seal_11 rfl (lv_at hl 0 rfl) ?_
      refine z_get C f_X3_40 hP (q0 := 0) rfl rfl dX3_seal_12 ?_
      refine z_RV (As := []) (rest := [.int x3]) [10, 11] C (hG.kept hS.1 hS.2.1).none hP (c_J4_length_8abf5 hfl hs0 D cI cB cJ (fun _ : Nat => mA 10) x_ h) q539 v_J4_length_8abf5 rfl rfl rfl rfl ⟨(Nat.le_of_ble_eq_true rfl), (Nat.le_of_ble_eq_true rfl)⟩ ⟨(Nat.le_of_ble_eq_true rfl), (Nat.le_of_ble_eq_true rfl)⟩ hl.1 rfl (lv_room (Nat.le_of_ble_eq_true rfl)) dX3_seal_15 (fun r15 h => ?_)
      refine lv_icmp_ge (tgt := 41) hx hb dX3_seal_18 (by decide) (fun c18 => ?_) (fun c18 => ?_)
      · have h := h.1 c18
        refine lv_iload_n hx hb dX3_seal_41 rfl (lv_at hl 1 rfl) ?_
        exact zW_iret C (x2, mo_, x_) rfl h hP hD hS (Nat.le_of_ble_eq_true rfl) (Nat.le_of_ble_eq_true rfl) dX3_seal_42
      · have h := h.2 c18
        refine lv_iload_n hx hb dX3_seal_21 rfl (lv_at hl 1 rfl) ?_
        refine lv_bipush (v := 31) hx hb dX3_seal_22 (by decide) ?_
        refine lv_imul hx hb dX3_seal_24 ?_
        refine lv_aload_n hx hb dX3_seal_25 rfl (lv_at hl 0 rfl) ?_
        refine z_get C f_X3_40 hP (q0 := 0) rfl rfl dX3_seal_26 ?_
        refine lv_iload_n hx hb dX3_seal_29 rfl (lv_at hl 2 rfl) ?_
        refine z_RV (As := [.int x3]) (rest := [.int (x2 * 31)]) [10, 11] C (hG.kept hS.1 hS.2.1).none hP (c_J4_charAt_5068e hfl hs0 D cI cB cJ (fun _ : Nat => mA 10) x_ x3 h) q547 v_J4_charAt_5068e rfl rfl rfl rfl ⟨(Nat.le_of_ble_eq_true rfl), (Nat.le_of_ble_eq_true rfl)⟩ ⟨(Nat.le_of_ble_eq_true rfl), (Nat.le_of_ble_eq_true rfl)⟩ hl.1 rfl (lv_room (Nat.le_of_ble_eq_true rfl)) dX3_seal_30 (fun r30 h => ?_)
        refine lv_iadd hx hb dX3_seal_33 ?_
        refine lv_istore_n (lv' := [(2, .int ((x2 * 31) + r30)), (0, .ref (mA 0)), (3, .int x3)]) hx hb dX3_seal_34 rfl hl (by decide) rfl (fun ls hl => ?_)
        refine lv_iinc (v := (x3 + 1)) (lv' := [(3, .int (x3 + 1)), (2, .int ((x2 * 31) + r30)), (0, .ref (mA 0))]) hx hb dX3_seal_35 hl (k := 2) rfl (by first | rfl | decide) (by decide) rfl (fun ls hl => ?_)
        refine lv_goto (tgt := 10) hx hb dX3_seal_38 (by decide) ?_
        refine W.widen (k := 9) (n := 306) (Nat.le_of_ble_eq_true rfl) (Nat.le_of_ble_eq_true rfl) ?_
        exact ih ((x2 * 31) + r30) (x3 + 1) mo_ x_  _ _ hP hD hS _ (lv_sub hl [2, 1, 0] rfl) h
  unfold wpX3_seal at h
  refine lv_aload_n hx hb dX3_seal_0 rfl (lv_at hl 0 rfl) ?_
  refine lv_iload_n hx hb dX3_seal_1 rfl (lv_at hl 1 rfl) ?_
  refine z_WV (As := [.int p0]) (rest := []) (wr := ([] : va_W)) (wN := (fun u : MS × SS => wM cI mA u.1 ++ wS cB (fun _ : Nat => mA 10) u.2)) [0, 1, 2, 3, 4, 5, 6, 7, 8, 9, 10, 11] [] [0, 1, 2, 3, 4, 5, 6, 7, 8, 9, 10, 11] C hG hA hP hD hS (c_X3_write hfl hs0 D cI cB cJ mA mo x p0 h) q538 v_X3_write rfl rfl ⟨by decide, by decide, by decide⟩ (by decide) (fun _ => rfl) rfl rfl rfl ⟨(Nat.le_of_ble_eq_true rfl), (Nat.le_of_ble_eq_true rfl)⟩ ⟨(Nat.le_of_ble_eq_true rfl), (Nat.le_of_ble_eq_true rfl)⟩ hl.1 rfl (lv_room (Nat.le_of_ble_eq_true rfl)) dX3_seal_2 (fun u H locs h hP hD hS => ?_)
  obtain ⟨mo2, x2⟩ := u
  have hP : va_P D vwCl (wM cI mA mo2 ++ wS cB (fun _ : Nat => mA 10) x2) H := hP
  have hD : va_D A (wM cI mA mo2 ++ wS cB (fun _ : Nat => mA 10) x2) := hD
  refine lv_bipush (v := 11) hx hb dX3_seal_5 (by decide) ?_
  refine lv_istore_n (lv' := [(2, .int 11), (0, .ref (mA 0)), (1, .int p0)]) hx hb dX3_seal_7 rfl hl (by decide) rfl (fun ls hl => ?_)
  refine lv_iconst (v := 0) hx hb dX3_seal_8 (by decide) ?_
  refine lv_istore_n (lv' := [(3, .int 0), (2, .int 11), (0, .ref (mA 0)), (1, .int p0)]) hx hb dX3_seal_9 rfl hl (by decide) rfl (fun ls hl => ?_)
  refine W.widen (k := 9) (n := 306) (Nat.le_of_ble_eq_true rfl) (Nat.le_of_ble_eq_true rfl) ?_
  obtain ⟨n9, h⟩ := h
  exact k10 n9 11 0 mo2 x2  _ _ hP hD hS _ (lv_sub hl [2, 1, 0] rfl) h
def wpX3_sealOf (post : Int32 → MS → SS → Prop) (mo : MS) (x : SS) (p0 : Int32) : Prop := wpX3_isDuty (fun r7 => (r7 = 0 → wpX3_no (fun r23 mo23 => post r23 mo23 x) (0, mo.2.1, mo.2.2.1, mo.2.2.2.1, mo.2.2.2.2.1, mo.2.2.2.2.2.1, mo.2.2.2.2.2.2.1, mo.2.2.2.2.2.2.2.1, mo.2.2.2.2.2.2.2.2.1, mo.2.2.2.2.2.2.2.2.2.1, mo.2.2.2.2.2.2.2.2.2.2.1, mo.2.2.2.2.2.2.2.2.2.2.2) 1) ∧ (¬ r7 = 0 → wpX3_seal (fun r15 mo15 x15 => post r15 mo15 x15) (0, mo.2.1, mo.2.2.1, mo.2.2.2.1, mo.2.2.2.2.1, mo.2.2.2.2.2.1, mo.2.2.2.2.2.2.1, mo.2.2.2.2.2.2.2.1, mo.2.2.2.2.2.2.2.2.1, mo.2.2.2.2.2.2.2.2.2.1, mo.2.2.2.2.2.2.2.2.2.2.1, mo.2.2.2.2.2.2.2.2.2.2.2) x p0)) (0, mo.2.1, mo.2.2.1, mo.2.2.2.1, mo.2.2.2.2.1, mo.2.2.2.2.2.1, mo.2.2.2.2.2.2.1, mo.2.2.2.2.2.2.2.1, mo.2.2.2.2.2.2.2.2.1, mo.2.2.2.2.2.2.2.2.2.1, mo.2.2.2.2.2.2.2.2.2.2.1, mo.2.2.2.2.2.2.2.2.2.2.2) p0
set_option maxHeartbeats 4000000 in
set_option maxRecDepth 100000 in
theorem c_X3_sealOf {l : Launch} (hfl : l.stackTraces = false) {s0 : State} (hs0 : zS s0) (D : va_G) (cI cB cJ : ClassId) (mA : Nat → Nat) (mo : MS) (x : SS) (p0 : Int32) {post : Int32 → MS → SS → Prop} (h : wpX3_sealOf post mo x p0) : zW s0 l D (zty cI cB cJ) yX3_sealOf cX3_sealOf 2 (some .int) 9 9 306 [.ref (mA 0), .int p0] (wM cI mA mo ++ wS cB (fun _ : Nat => mA 10) x) (fun u : Int32 × MS × SS => some (Value.int u.1)) (fun u : Int32 × MS × SS => post u.1 u.2.1 u.2.2) (fun u : Int32 × MS × SS => wM cI mA u.2.1 ++ wS cB (fun _ : Nat => mA 10) u.2.2) := by
  refine zW_intro (by decide +kernel) (Nat.le_of_ble_eq_true rfl) ?_
  intro p e s m below meth c A C hnm hA hG hP hD hS ls hl
  have C : zC D (zty cI cB cJ) p s m ([.ref (mA 0), .int p0] : List Value).toArray meth c cX3_sealOf RX3 (some .int) 2 := C
  have hx := C.1
  have hb := C.2.1
  have hts := C.2.2.1
  have hown := C.2.2.2.1
  have hml := C.2.2.2.2.2.1
  have hK := C.2.2.2.2.2.2.2
  have hl : lv_has ls 2 [(0, .ref (mA 0)), (1, .int p0)] := hl
  have hP : va_P D vwCl (wM cI mA mo ++ wS cB (fun _ : Nat => mA 10) x) s.heap := hP
  have hD : va_D A (wM cI mA mo ++ wS cB (fun _ : Nat => mA 10) x) := hD
  unfold wpX3_sealOf at h
  refine lv_aload_n hx hb dX3_sealOf_0 rfl (lv_at hl 0 rfl) ?_
  refine lv_iconst (v := 0) hx hb dX3_sealOf_1 (by decide) ?_
  refine z_put C f_X3_44 zt_X3 rfl rfl rfl rfl hP hD hS (q0 := 0) rfl (Nat.le_of_ble_eq_true rfl) dX3_sealOf_2 (fun H locs hP hD hS => ?_)
  have hP : va_P D vwCl (wM cI mA (0, mo.2.1, mo.2.2.1, mo.2.2.2.1, mo.2.2.2.2.1, mo.2.2.2.2.2.1, mo.2.2.2.2.2.2.1, mo.2.2.2.2.2.2.2.1, mo.2.2.2.2.2.2.2.2.1, mo.2.2.2.2.2.2.2.2.2.1, mo.2.2.2.2.2.2.2.2.2.2.1, mo.2.2.2.2.2.2.2.2.2.2.2) ++ wS cB (fun _ : Nat => mA 10) x) H := hP
  have hD : va_D A (wM cI mA (0, mo.2.1, mo.2.2.1, mo.2.2.2.1, mo.2.2.2.2.1, mo.2.2.2.2.2.1, mo.2.2.2.2.2.2.1, mo.2.2.2.2.2.2.2.1, mo.2.2.2.2.2.2.2.2.1, mo.2.2.2.2.2.2.2.2.2.1, mo.2.2.2.2.2.2.2.2.2.2.1, mo.2.2.2.2.2.2.2.2.2.2.2) ++ wS cB (fun _ : Nat => mA 10) x) := hD
  refine lv_aload_n hx hb dX3_sealOf_5 rfl (lv_at hl 0 rfl) ?_
  refine lv_iload_n hx hb dX3_sealOf_6 rfl (lv_at hl 1 rfl) ?_
  refine z_RV (As := [.int p0]) (rest := []) [0, 1, 2, 3, 4, 5, 6, 7, 8, 9] C (hG.kept hS.1 hS.2.1).none hP (c_X3_isDuty hfl hs0 D cI cB cJ mA (0, mo.2.1, mo.2.2.1, mo.2.2.2.1, mo.2.2.2.2.1, mo.2.2.2.2.2.1, mo.2.2.2.2.2.2.1, mo.2.2.2.2.2.2.2.1, mo.2.2.2.2.2.2.2.2.1, mo.2.2.2.2.2.2.2.2.2.1, mo.2.2.2.2.2.2.2.2.2.2.1, mo.2.2.2.2.2.2.2.2.2.2.2) p0 h) q130 v_X3_isDuty rfl rfl rfl rfl ⟨(Nat.le_of_ble_eq_true rfl), (Nat.le_of_ble_eq_true rfl)⟩ ⟨(Nat.le_of_ble_eq_true rfl), (Nat.le_of_ble_eq_true rfl)⟩ hl.1 rfl (lv_room (Nat.le_of_ble_eq_true rfl)) dX3_sealOf_7 (fun r7 h => ?_)
  refine lv_if_eq (tgt := 21) hx hb dX3_sealOf_10 (by decide) (fun c10 => ?_) (fun c10 => ?_)
  · have h := h.1 c10
    refine lv_aload_n hx hb dX3_sealOf_21 rfl (lv_at hl 0 rfl) ?_
    refine lv_iconst (v := 1) hx hb dX3_sealOf_22 (by decide) ?_
    refine z_WV (As := [.int 1]) (rest := []) (wr := (List.filterMap (fun i => (wM cI mA (0, mo.2.1, mo.2.2.1, mo.2.2.2.1, mo.2.2.2.2.1, mo.2.2.2.2.2.1, mo.2.2.2.2.2.2.1, mo.2.2.2.2.2.2.2.1, mo.2.2.2.2.2.2.2.2.1, mo.2.2.2.2.2.2.2.2.2.1, mo.2.2.2.2.2.2.2.2.2.2.1, mo.2.2.2.2.2.2.2.2.2.2.2) ++ wS cB (fun _ : Nat => mA 10) x)[i]?) [10, 11])) (wN := (fun u : Int32 × MS => wM cI mA u.2 ++ wS cB (fun _ : Nat => mA 10) x)) [0, 1, 2, 3, 4, 5, 6, 7, 8, 9] [10, 11] [2, 3, 4, 5, 6, 7, 8, 9, 10, 11, 0, 1] C hG hA hP hD hS (c_X3_no hfl hs0 D cI cB cJ mA (0, mo.2.1, mo.2.2.1, mo.2.2.2.1, mo.2.2.2.2.1, mo.2.2.2.2.2.1, mo.2.2.2.2.2.2.1, mo.2.2.2.2.2.2.2.1, mo.2.2.2.2.2.2.2.2.1, mo.2.2.2.2.2.2.2.2.2.1, mo.2.2.2.2.2.2.2.2.2.2.1, mo.2.2.2.2.2.2.2.2.2.2.2) 1 h) q122 v_X3_no rfl rfl ⟨by decide, by decide, by decide⟩ (by decide) (fun _ => rfl) rfl rfl rfl ⟨(Nat.le_of_ble_eq_true rfl), (Nat.le_of_ble_eq_true rfl)⟩ ⟨(Nat.le_of_ble_eq_true rfl), (Nat.le_of_ble_eq_true rfl)⟩ hl.1 rfl (lv_room (Nat.le_of_ble_eq_true rfl)) dX3_sealOf_23 (fun u H locs h hP hD hS => ?_)
    obtain ⟨r23, mo23⟩ := u
    have hP : va_P D vwCl (wM cI mA mo23 ++ wS cB (fun _ : Nat => mA 10) x) H := hP
    have hD : va_D A (wM cI mA mo23 ++ wS cB (fun _ : Nat => mA 10) x) := hD
    exact zW_iret C (r23, mo23, x) rfl h hP hD hS (Nat.le_of_ble_eq_true rfl) (Nat.le_of_ble_eq_true rfl) dX3_sealOf_26
  · have h := h.2 c10
    refine lv_aload_n hx hb dX3_sealOf_13 rfl (lv_at hl 0 rfl) ?_
    refine lv_iload_n hx hb dX3_sealOf_14 rfl (lv_at hl 1 rfl) ?_
    refine z_WV (As := [.int p0]) (rest := []) (wr := ([] : va_W)) (wN := (fun u : Int32 × MS × SS => wM cI mA u.2.1 ++ wS cB (fun _ : Nat => mA 10) u.2.2)) [0, 1, 2, 3, 4, 5, 6, 7, 8, 9, 10, 11] [] [0, 1, 2, 3, 4, 5, 6, 7, 8, 9, 10, 11] C hG hA hP hD hS (c_X3_seal hfl hs0 D cI cB cJ mA (0, mo.2.1, mo.2.2.1, mo.2.2.2.1, mo.2.2.2.2.1, mo.2.2.2.2.2.1, mo.2.2.2.2.2.2.1, mo.2.2.2.2.2.2.2.1, mo.2.2.2.2.2.2.2.2.1, mo.2.2.2.2.2.2.2.2.2.1, mo.2.2.2.2.2.2.2.2.2.2.1, mo.2.2.2.2.2.2.2.2.2.2.2) x p0 h) q548 v_X3_seal rfl rfl ⟨by decide, by decide, by decide⟩ (by decide) (fun _ => rfl) rfl rfl rfl ⟨(Nat.le_of_ble_eq_true rfl), (Nat.le_of_ble_eq_true rfl)⟩ ⟨(Nat.le_of_ble_eq_true rfl), (Nat.le_of_ble_eq_true rfl)⟩ hl.1 rfl (lv_room (Nat.le_of_ble_eq_true rfl)) dX3_sealOf_15 (fun u H locs h hP hD hS => ?_)
    obtain ⟨r15, mo15, x15⟩ := u
    have hP : va_P D vwCl (wM cI mA mo15 ++ wS cB (fun _ : Nat => mA 10) x15) H := hP
    have hD : va_D A (wM cI mA mo15 ++ wS cB (fun _ : Nat => mA 10) x15) := hD
    refine lv_goto (tgt := 26) hx hb dX3_sealOf_18 (by decide) ?_
    exact zW_iret C (r15, mo15, x15) rfl h hP hD hS (Nat.le_of_ble_eq_true rfl) (Nat.le_of_ble_eq_true rfl) dX3_sealOf_26

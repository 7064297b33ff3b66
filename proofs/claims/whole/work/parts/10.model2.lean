theorem q147 : (Jvm.Cond.code ({ cls := "PactClocksModel", name := "ok", desc := "(I)I" } : Jvm.MethodName) prog_5_method_4_code (2 : Nat) (Option.some Jvm.ClassFile.FieldType.int)) ∈ lw_all := mt4 206 (by decide +kernel) (by decide +kernel)
theorem q148 : (Jvm.Cond.instanceMethod ({ cls := "PactClocksModel", name := "ok", desc := "(I)I" } : Jvm.MethodName)) ∈ lw_all := mt4 205 (by decide +kernel) (by decide +kernel)
theorem q149 : (Cond.selects "PactClocksModel" (⟨"PactClocksModel", "ok", "(I)I"⟩ : MethodName) (⟨"PactClocksModel", "ok", "(I)I"⟩ : MethodName)) ∈ lw_all := mt0 27 (by decide +kernel) (by decide +kernel)
theorem q150 : (Jvm.Cond.methodLink "PactClocksModel" (126 : Nat) ({ cls := "PactClocksModel", name := "ok", desc := "(I)I" } : Jvm.MethodName)) ∈ lw_all := mt4 203 (by decide +kernel) (by decide +kernel)
theorem q151 : (Jvm.Cond.code ({ cls := "PactClocksModel", name := "ofDuty", desc := "(II)I" } : Jvm.MethodName) prog_5_method_37_code (3 : Nat) (Option.some Jvm.ClassFile.FieldType.int)) ∈ lw_all := mt4 234 (by decide +kernel) (by decide +kernel)
theorem q152 : (Jvm.Cond.instanceMethod ({ cls := "PactClocksModel", name := "ofDuty", desc := "(II)I" } : Jvm.MethodName)) ∈ lw_all := mt4 233 (by decide +kernel) (by decide +kernel)
theorem q153 : (Cond.selects "PactClocksModel" (⟨"PactClocksModel", "ofDuty", "(II)I"⟩ : MethodName) (⟨"PactClocksModel", "ofDuty", "(II)I"⟩ : MethodName)) ∈ lw_all := mt0 28 (by decide +kernel) (by decide +kernel)
theorem q154 : (Jvm.Cond.methodLink "PactClocksModel" (129 : Nat) ({ cls := "PactClocksModel", name := "ofDuty", desc := "(II)I" } : Jvm.MethodName)) ∈ lw_all := mt4 231 (by decide +kernel) (by decide +kernel)
theorem q155 : (Jvm.Cond.code ({ cls := "PactClocksModel", name := "hangsOn", desc := "(II)Z" } : Jvm.MethodName) prog_5_method_42_code (4 : Nat) (Option.some Jvm.ClassFile.FieldType.boolean)) ∈ lw_all := mt5 18 (by decide +kernel) (by decide +kernel)
theorem q156 : (Jvm.Cond.instanceMethod ({ cls := "PactClocksModel", name := "hangsOn", desc := "(II)Z" } : Jvm.MethodName)) ∈ lw_all := mt5 17 (by decide +kernel) (by decide +kernel)
theorem q157 : (Cond.selects "PactClocksModel" (⟨"PactClocksModel", "hangsOn", "(II)Z"⟩ : MethodName) (⟨"PactClocksModel", "hangsOn", "(II)Z"⟩ : MethodName)) ∈ lw_all := mt0 30 (by decide +kernel) (by decide +kernel)
theorem q158 : (Jvm.Cond.methodLink "PactClocksModel" (132 : Nat) ({ cls := "PactClocksModel", name := "hangsOn", desc := "(II)Z" } : Jvm.MethodName)) ∈ lw_all := mt5 15 (by decide +kernel) (by decide +kernel)
theorem q159 : (Jvm.Cond.code ({ cls := "PactClocksModel", name := "behind", desc := "(I)I" } : Jvm.MethodName) prog_5_method_43_code (4 : Nat) (Option.some Jvm.ClassFile.FieldType.int)) ∈ lw_all := mt5 14 (by decide +kernel) (by decide +kernel)
theorem q160 : (Jvm.Cond.instanceMethod ({ cls := "PactClocksModel", name := "behind", desc := "(I)I" } : Jvm.MethodName)) ∈ lw_all := mt5 13 (by decide +kernel) (by decide +kernel)
theorem q161 : (Cond.selects "PactClocksModel" (⟨"PactClocksModel", "behind", "(I)I"⟩ : MethodName) (⟨"PactClocksModel", "behind", "(I)I"⟩ : MethodName)) ∈ lw_all := mt0 29 (by decide +kernel) (by decide +kernel)
theorem q162 : (Jvm.Cond.methodLink "PactClocksModel" (136 : Nat) ({ cls := "PactClocksModel", name := "behind", desc := "(I)I" } : Jvm.MethodName)) ∈ lw_all := mt5 11 (by decide +kernel) (by decide +kernel)
theorem q163 : (Jvm.Cond.code ({ cls := "PactClocksModel", name := "depth", desc := "(I)I" } : Jvm.MethodName) prog_5_method_45_code (4 : Nat) (Option.some Jvm.ClassFile.FieldType.int)) ∈ lw_all := mt5 26 (by decide +kernel) (by decide +kernel)
theorem q164 : (Jvm.Cond.instanceMethod ({ cls := "PactClocksModel", name := "depth", desc := "(I)I" } : Jvm.MethodName)) ∈ lw_all := mt5 25 (by decide +kernel) (by decide +kernel)
theorem q165 : (Cond.selects "PactClocksModel" (⟨"PactClocksModel", "depth", "(I)I"⟩ : MethodName) (⟨"PactClocksModel", "depth", "(I)I"⟩ : MethodName)) ∈ lw_all := mt0 31 (by decide +kernel) (by decide +kernel)
theorem q166 : (Jvm.Cond.methodLink "PactClocksModel" (139 : Nat) ({ cls := "PactClocksModel", name := "depth", desc := "(I)I" } : Jvm.MethodName)) ∈ lw_all := mt5 23 (by decide +kernel) (by decide +kernel)
theorem q167 : (Jvm.Cond.code ({ cls := "PactClocksModel", name := "owed", desc := "(I)I" } : Jvm.MethodName) prog_5_method_52_code (4 : Nat) (Option.some Jvm.ClassFile.FieldType.int)) ∈ lw_all := mt5 185 (by decide +kernel) (by decide +kernel)
theorem q168 : (Jvm.Cond.instanceMethod ({ cls := "PactClocksModel", name := "owed", desc := "(I)I" } : Jvm.MethodName)) ∈ lw_all := mt5 184 (by decide +kernel) (by decide +kernel)
theorem q169 : (Cond.selects "PactClocksModel" (⟨"PactClocksModel", "owed", "(I)I"⟩ : MethodName) (⟨"PactClocksModel", "owed", "(I)I"⟩ : MethodName)) ∈ lw_all := mt0 35 (by decide +kernel) (by decide +kernel)
theorem q170 : (Jvm.Cond.methodLink "PactClocksModel" (178 : Nat) ({ cls := "PactClocksModel", name := "owed", desc := "(I)I" } : Jvm.MethodName)) ∈ lw_all := mt5 182 (by decide +kernel) (by decide +kernel)
theorem q171 : (Jvm.Cond.code ({ cls := "PactClocksModel", name := "between", desc := "(II)I" } : Jvm.MethodName) prog_5_method_54_code (5 : Nat) (Option.some Jvm.ClassFile.FieldType.int)) ∈ lw_all := mt5 193 (by decide +kernel) (by decide +kernel)
theorem q172 : (Jvm.Cond.instanceMethod ({ cls := "PactClocksModel", name := "between", desc := "(II)I" } : Jvm.MethodName)) ∈ lw_all := mt5 192 (by decide +kernel) (by decide +kernel)
theorem q173 : (Cond.selects "PactClocksModel" (⟨"PactClocksModel", "between", "(II)I"⟩ : MethodName) (⟨"PactClocksModel", "between", "(II)I"⟩ : MethodName)) ∈ lw_all := mt0 36 (by decide +kernel) (by decide +kernel)
theorem q174 : (Jvm.Cond.methodLink "PactClocksModel" (181 : Nat) ({ cls := "PactClocksModel", name := "between", desc := "(II)I" } : Jvm.MethodName)) ∈ lw_all := mt5 190 (by decide +kernel) (by decide +kernel)
theorem q175 : (Jvm.Cond.code ({ cls := "PactClocksModel", name := "weak", desc := "()I" } : Jvm.MethodName) prog_5_method_56_code (5 : Nat) (Option.some Jvm.ClassFile.FieldType.int)) ∈ lw_all := mt5 201 (by decide +kernel) (by decide +kernel)
theorem q176 : (Jvm.Cond.instanceMethod ({ cls := "PactClocksModel", name := "weak", desc := "()I" } : Jvm.MethodName)) ∈ lw_all := mt5 200 (by decide +kernel) (by decide +kernel)
theorem q177 : (Cond.selects "PactClocksModel" (⟨"PactClocksModel", "weak", "()I"⟩ : MethodName) (⟨"PactClocksModel", "weak", "()I"⟩ : MethodName)) ∈ lw_all := mt0 37 (by decide +kernel) (by decide +kernel)
theorem q178 : (Jvm.Cond.methodLink "PactClocksModel" (184 : Nat) ({ cls := "PactClocksModel", name := "weak", desc := "()I" } : Jvm.MethodName)) ∈ lw_all := mt5 198 (by decide +kernel) (by decide +kernel)
theorem q179 : (Jvm.Cond.code ({ cls := "PactClocksModel", name := "keep", desc := "()V" } : Jvm.MethodName) prog_5_method_8_code (1 : Nat) (Option.none : Option Jvm.ClassFile.FieldType)) ∈ lw_all := mt5 213 (by decide +kernel) (by decide +kernel)
theorem q180 : (Jvm.Cond.instanceMethod ({ cls := "PactClocksModel", name := "keep", desc := "()V" } : Jvm.MethodName)) ∈ lw_all := mt5 212 (by decide +kernel) (by decide +kernel)
theorem q181 : (Cond.selects "PactClocksModel" (⟨"PactClocksModel", "keep", "()V"⟩ : MethodName) (⟨"PactClocksModel", "keep", "()V"⟩ : MethodName)) ∈ lw_all := mt0 39 (by decide +kernel) (by decide +kernel)
theorem q182 : (Jvm.Cond.methodLink "PactClocksModel" (187 : Nat) ({ cls := "PactClocksModel", name := "keep", desc := "()V" } : Jvm.MethodName)) ∈ lw_all := mt5 210 (by decide +kernel) (by decide +kernel)
theorem q183 : (Jvm.Cond.code ({ cls := "PactClocksModel", name := "bringBack", desc := "()V" } : Jvm.MethodName) prog_5_method_9_code (1 : Nat) (Option.none : Option Jvm.ClassFile.FieldType)) ∈ lw_all := mt5 218 (by decide +kernel) (by decide +kernel)
theorem q184 : (Jvm.Cond.instanceMethod ({ cls := "PactClocksModel", name := "bringBack", desc := "()V" } : Jvm.MethodName)) ∈ lw_all := mt5 217 (by decide +kernel) (by decide +kernel)
theorem q185 : (Cond.selects "PactClocksModel" (⟨"PactClocksModel", "bringBack", "()V"⟩ : MethodName) (⟨"PactClocksModel", "bringBack", "()V"⟩ : MethodName)) ∈ lw_all := mt0 40 (by decide +kernel) (by decide +kernel)
theorem q186 : (Jvm.Cond.methodLink "PactClocksModel" (190 : Nat) ({ cls := "PactClocksModel", name := "bringBack", desc := "()V" } : Jvm.MethodName)) ∈ lw_all := mt5 215 (by decide +kernel) (by decide +kernel)
theorem q187 : (Jvm.Cond.code ({ cls := "PactClocksModel", name := "untilFailed", desc := "(I)I" } : Jvm.MethodName) prog_5_method_58_code (4 : Nat) (Option.some Jvm.ClassFile.FieldType.int)) ∈ lw_all := mt5 209 (by decide +kernel) (by decide +kernel)
theorem q188 : (Jvm.Cond.instanceMethod ({ cls := "PactClocksModel", name := "untilFailed", desc := "(I)I" } : Jvm.MethodName)) ∈ lw_all := mt5 208 (by decide +kernel) (by decide +kernel)
theorem q189 : (Cond.selects "PactClocksModel" (⟨"PactClocksModel", "untilFailed", "(I)I"⟩ : MethodName) (⟨"PactClocksModel", "untilFailed", "(I)I"⟩ : MethodName)) ∈ lw_all := mt0 38 (by decide +kernel) (by decide +kernel)
theorem q190 : (Jvm.Cond.methodLink "PactClocksModel" (193 : Nat) ({ cls := "PactClocksModel", name := "untilFailed", desc := "(I)I" } : Jvm.MethodName)) ∈ lw_all := mt5 206 (by decide +kernel) (by decide +kernel)
theorem q191 : (Jvm.Cond.code ({ cls := "PactClocksModel", name := "later", desc := "(II)I" } : Jvm.MethodName) prog_5_method_60_code (4 : Nat) (Option.some Jvm.ClassFile.FieldType.int)) ∈ lw_all := mt5 226 (by decide +kernel) (by decide +kernel)
theorem q192 : (Jvm.Cond.instanceMethod ({ cls := "PactClocksModel", name := "later", desc := "(II)I" } : Jvm.MethodName)) ∈ lw_all := mt5 225 (by decide +kernel) (by decide +kernel)
theorem q193 : (Cond.selects "PactClocksModel" (⟨"PactClocksModel", "later", "(II)I"⟩ : MethodName) (⟨"PactClocksModel", "later", "(II)I"⟩ : MethodName)) ∈ lw_all := mt0 41 (by decide +kernel) (by decide +kernel)
theorem q194 : (Jvm.Cond.methodLink "PactClocksModel" (196 : Nat) ({ cls := "PactClocksModel", name := "later", desc := "(II)I" } : Jvm.MethodName)) ∈ lw_all := mt5 223 (by decide +kernel) (by decide +kernel)
theorem q195 : (Jvm.Cond.code ({ cls := "PactClocksModel", name := "best", desc := "(I)I" } : Jvm.MethodName) prog_5_method_62_code (6 : Nat) (Option.some Jvm.ClassFile.FieldType.int)) ∈ lw_all := mt5 234 (by decide +kernel) (by decide +kernel)
theorem q196 : (Jvm.Cond.instanceMethod ({ cls := "PactClocksModel", name := "best", desc := "(I)I" } : Jvm.MethodName)) ∈ lw_all := mt5 233 (by decide +kernel) (by decide +kernel)
theorem q197 : (Cond.selects "PactClocksModel" (⟨"PactClocksModel", "best", "(I)I"⟩ : MethodName) (⟨"PactClocksModel", "best", "(I)I"⟩ : MethodName)) ∈ lw_all := mt0 42 (by decide +kernel) (by decide +kernel)
theorem q198 : (Jvm.Cond.methodLink "PactClocksModel" (199 : Nat) ({ cls := "PactClocksModel", name := "best", desc := "(I)I" } : Jvm.MethodName)) ∈ lw_all := mt5 231 (by decide +kernel) (by decide +kernel)
theorem v_X3_ok : zV yX3_ok cX3_ok 2 (some .int) 1 := ⟨q148, q149, q63, q147, by decide +kernel, by decide +kernel, by decide +kernel⟩
theorem v_X3_ofDuty : zV yX3_ofDuty cX3_ofDuty 3 (some .int) 2 := ⟨q152, q153, q63, q151, by decide +kernel, by decide +kernel, by decide +kernel⟩
theorem v_X3_hangsOn : zV yX3_hangsOn cX3_hangsOn 4 (some .boolean) 2 := ⟨q156, q157, q63, q155, by decide +kernel, by decide +kernel, by decide +kernel⟩
theorem v_X3_behind : zV yX3_behind cX3_behind 4 (some .int) 1 := ⟨q160, q161, q63, q159, by decide +kernel, by decide +kernel, by decide +kernel⟩
theorem v_X3_depth : zV yX3_depth cX3_depth 4 (some .int) 1 := ⟨q164, q165, q63, q163, by decide +kernel, by decide +kernel, by decide +kernel⟩
theorem v_X3_owed : zV yX3_owed cX3_owed 4 (some .int) 1 := ⟨q168, q169, q63, q167, by decide +kernel, by decide +kernel, by decide +kernel⟩
theorem v_X3_between : zV yX3_between cX3_between 5 (some .int) 2 := ⟨q172, q173, q63, q171, by decide +kernel, by decide +kernel, by decide +kernel⟩
theorem v_X3_weak : zV yX3_weak cX3_weak 5 (some .int) 0 := ⟨q176, q177, q63, q175, by decide +kernel, by decide +kernel, by decide +kernel⟩
theorem v_X3_keep : zV yX3_keep cX3_keep 1 none 0 := ⟨q180, q181, q63, q179, by decide +kernel, by decide +kernel, by decide +kernel⟩
theorem v_X3_bringBack : zV yX3_bringBack cX3_bringBack 1 none 0 := ⟨q184, q185, q63, q183, by decide +kernel, by decide +kernel, by decide +kernel⟩
theorem v_X3_untilFailed : zV yX3_untilFailed cX3_untilFailed 4 (some .int) 1 := ⟨q188, q189, q63, q187, by decide +kernel, by decide +kernel, by decide +kernel⟩
theorem v_X3_later : zV yX3_later cX3_later 4 (some .int) 2 := ⟨q192, q193, q63, q191, by decide +kernel, by decide +kernel, by decide +kernel⟩
theorem v_X3_best : zV yX3_best cX3_best 6 (some .int) 1 := ⟨q196, q197, q63, q195, by decide +kernel, by decide +kernel, by decide +kernel⟩
def wpX3_day (post : Int32 → MS → Prop) (mo : MS) : Prop := vp_in 0 68 ∧ (wpX3_ok (fun r7 mo7 => post r7 mo7) mo (mo.2.2.2.2.2.2.2.2.2.2.1 (0 : Int32).toNatClampNeg))
set_option maxHeartbeats 4000000 in
set_option maxRecDepth 100000 in
theorem c_X3_day {l : Launch} (hfl : l.stackTraces = false) {s0 : State} (hs0 : zS s0) (D : va_G) (cI cB cJ : ClassId) (mA : Nat → Nat) (mo : MS) {post : Int32 → MS → Prop} (h : wpX3_day post mo) : zW s0 l D (zty cI cB cJ) yX3_day cX3_day 1 (some .int) 2 0 0 [.ref (mA 0)] (wM cI mA mo) (fun u : Int32 × MS => some (Value.int u.1)) (fun u : Int32 × MS => post u.1 u.2) (fun u : Int32 × MS => wM cI mA u.2) := by
  refine zW_intro (by decide +kernel) (Nat.le_of_ble_eq_true rfl) ?_
  intro p e s m below meth c A C hnm hA hG hP hD hS ls hl
  have C : zC D (zty cI cB cJ) p s m ([.ref (mA 0)] : List Value).toArray meth c cX3_day RX3 (some .int) 1 := C
  have hx := C.1
  have hb := C.2.1
  have hts := C.2.2.1
  have hown := C.2.2.2.1
  have hml := C.2.2.2.2.2.1
  have hK := C.2.2.2.2.2.2.2
  have hl : lv_has ls 1 [(0, .ref (mA 0))] := hl
  have hP : va_P D vwCl (wM cI mA mo) s.heap := hP
  have hD : va_D A (wM cI mA mo) := hD
  unfold wpX3_day at h
  refine lv_aload_n hx hb dX3_day_0 rfl (lv_at hl 0 rfl) ?_
  refine lv_aload_n hx hb dX3_day_1 rfl (lv_at hl 0 rfl) ?_
  refine z_get C f_X3_31 hP (q0 := 0) rfl rfl dX3_day_2 ?_
  refine lv_iconst (v := 0) hx hb dX3_day_5 (by decide) ?_
  obtain ⟨g9, h⟩ := h
  refine va_iald hx hb hK hP 8 0 rfl rfl g9 dX3_day_6 ?_
  refine z_WV (As := [.int (mo.2.2.2.2.2.2.2.2.2.2.1 (0 : Int32).toNatClampNeg)]) (rest := []) (wr := ([] : va_W)) (wN := (fun u : Int32 × MS => wM cI mA u.2)) [0, 1, 2, 3, 4, 5, 6, 7, 8, 9] [] [0, 1, 2, 3, 4, 5, 6, 7, 8, 9] C hG hA hP hD hS (c_X3_ok hfl hs0 D cI cB cJ mA mo (mo.2.2.2.2.2.2.2.2.2.2.1 (0 : Int32).toNatClampNeg) h) q150 v_X3_ok rfl rfl ⟨by decide, by decide, by decide⟩ (by decide) (fun _ => rfl) rfl rfl rfl ⟨(Nat.le_of_ble_eq_true rfl), (Nat.le_of_ble_eq_true rfl)⟩ ⟨(Nat.le_of_ble_eq_true rfl), (Nat.le_of_ble_eq_true rfl)⟩ hl.1 rfl (lv_room (Nat.le_of_ble_eq_true rfl)) dX3_day_7 (fun u H locs h hP hD hS => ?_)
  obtain ⟨r7, mo7⟩ := u
  have hP : va_P D vwCl (wM cI mA mo7) H := hP
  have hD : va_D A (wM cI mA mo7) := hD
  exact zW_iret C (r7, mo7) rfl h hP hD hS (Nat.le_of_ble_eq_true rfl) (Nat.le_of_ble_eq_true rfl) dX3_day_10
def wpX3_parties (post : Int32 → MS → Prop) (mo : MS) : Prop := wpX3_ok (fun r5 mo5 => post r5 mo5) mo mo.2.1
set_option maxHeartbeats 4000000 in
set_option maxRecDepth 100000 in
theorem c_X3_parties {l : Launch} (hfl : l.stackTraces = false) {s0 : State} (hs0 : zS s0) (D : va_G) (cI cB cJ : ClassId) (mA : Nat → Nat) (mo : MS) {post : Int32 → MS → Prop} (h : wpX3_parties post mo) : zW s0 l D (zty cI cB cJ) yX3_parties cX3_parties 1 (some .int) 2 0 0 [.ref (mA 0)] (wM cI mA mo) (fun u : Int32 × MS => some (Value.int u.1)) (fun u : Int32 × MS => post u.1 u.2) (fun u : Int32 × MS => wM cI mA u.2) := by
  refine zW_intro (by decide +kernel) (Nat.le_of_ble_eq_true rfl) ?_
  intro p e s m below meth c A C hnm hA hG hP hD hS ls hl
  have C : zC D (zty cI cB cJ) p s m ([.ref (mA 0)] : List Value).toArray meth c cX3_parties RX3 (some .int) 1 := C
  have hx := C.1
  have hb := C.2.1
  have hts := C.2.2.1
  have hown := C.2.2.2.1
  have hml := C.2.2.2.2.2.1
  have hK := C.2.2.2.2.2.2.2
  have hl : lv_has ls 1 [(0, .ref (mA 0))] := hl
  have hP : va_P D vwCl (wM cI mA mo) s.heap := hP
  have hD : va_D A (wM cI mA mo) := hD
  unfold wpX3_parties at h
  refine lv_aload_n hx hb dX3_parties_0 rfl (lv_at hl 0 rfl) ?_
  refine lv_aload_n hx hb dX3_parties_1 rfl (lv_at hl 0 rfl) ?_
  refine z_get C f_X3_48 hP (q0 := 0) rfl rfl dX3_parties_2 ?_
  refine z_WV (As := [.int mo.2.1]) (rest := []) (wr := ([] : va_W)) (wN := (fun u : Int32 × MS => wM cI mA u.2)) [0, 1, 2, 3, 4, 5, 6, 7, 8, 9] [] [0, 1, 2, 3, 4, 5, 6, 7, 8, 9] C hG hA hP hD hS (c_X3_ok hfl hs0 D cI cB cJ mA mo mo.2.1 h) q150 v_X3_ok rfl rfl ⟨by decide, by decide, by decide⟩ (by decide) (fun _ => rfl) rfl rfl rfl ⟨(Nat.le_of_ble_eq_true rfl), (Nat.le_of_ble_eq_true rfl)⟩ ⟨(Nat.le_of_ble_eq_true rfl), (Nat.le_of_ble_eq_true rfl)⟩ hl.1 rfl (lv_room (Nat.le_of_ble_eq_true rfl)) dX3_parties_5 (fun u H locs h hP hD hS => ?_)
  obtain ⟨r5, mo5⟩ := u
  have hP : va_P D vwCl (wM cI mA mo5) H := hP
  have hD : va_D A (wM cI mA mo5) := hD
  exact zW_iret C (r5, mo5) rfl h hP hD hS (Nat.le_of_ble_eq_true rfl) (Nat.le_of_ble_eq_true rfl) dX3_parties_8
def wpX3_duties (post : Int32 → MS → Prop) (mo : MS) : Prop := wpX3_ok (fun r5 mo5 => post r5 mo5) mo mo.2.2.1
set_option maxHeartbeats 4000000 in
set_option maxRecDepth 100000 in
theorem c_X3_duties {l : Launch} (hfl : l.stackTraces = false) {s0 : State} (hs0 : zS s0) (D : va_G) (cI cB cJ : ClassId) (mA : Nat → Nat) (mo : MS) {post : Int32 → MS → Prop} (h : wpX3_duties post mo) : zW s0 l D (zty cI cB cJ) yX3_duties cX3_duties 1 (some .int) 2 0 0 [.ref (mA 0)] (wM cI mA mo) (fun u : Int32 × MS => some (Value.int u.1)) (fun u : Int32 × MS => post u.1 u.2) (fun u : Int32 × MS => wM cI mA u.2) := by
  refine zW_intro (by decide +kernel) (Nat.le_of_ble_eq_true rfl) ?_
  intro p e s m below meth c A C hnm hA hG hP hD hS ls hl
  have C : zC D (zty cI cB cJ) p s m ([.ref (mA 0)] : List Value).toArray meth c cX3_duties RX3 (some .int) 1 := C
  have hx := C.1
  have hb := C.2.1
  have hts := C.2.2.1
  have hown := C.2.2.2.1
  have hml := C.2.2.2.2.2.1
  have hK := C.2.2.2.2.2.2.2
  have hl : lv_has ls 1 [(0, .ref (mA 0))] := hl
  have hP : va_P D vwCl (wM cI mA mo) s.heap := hP
  have hD : va_D A (wM cI mA mo) := hD
  unfold wpX3_duties at h
  refine lv_aload_n hx hb dX3_duties_0 rfl (lv_at hl 0 rfl) ?_
  refine lv_aload_n hx hb dX3_duties_1 rfl (lv_at hl 0 rfl) ?_
  refine z_get C f_X3_55 hP (q0 := 0) rfl rfl dX3_duties_2 ?_
  refine z_WV (As := [.int mo.2.2.1]) (rest := []) (wr := ([] : va_W)) (wN := (fun u : Int32 × MS => wM cI mA u.2)) [0, 1, 2, 3, 4, 5, 6, 7, 8, 9] [] [0, 1, 2, 3, 4, 5, 6, 7, 8, 9] C hG hA hP hD hS (c_X3_ok hfl hs0 D cI cB cJ mA mo mo.2.2.1 h) q150 v_X3_ok rfl rfl ⟨by decide, by decide, by decide⟩ (by decide) (fun _ => rfl) rfl rfl rfl ⟨(Nat.le_of_ble_eq_true rfl), (Nat.le_of_ble_eq_true rfl)⟩ ⟨(Nat.le_of_ble_eq_true rfl), (Nat.le_of_ble_eq_true rfl)⟩ hl.1 rfl (lv_room (Nat.le_of_ble_eq_true rfl)) dX3_duties_5 (fun u H locs h hP hD hS => ?_)
  obtain ⟨r5, mo5⟩ := u
  have hP : va_P D vwCl (wM cI mA mo5) H := hP
  have hD : va_D A (wM cI mA mo5) := hD
  exact zW_iret C (r5, mo5) rfl h hP hD hS (Nat.le_of_ble_eq_true rfl) (Nat.le_of_ble_eq_true rfl) dX3_duties_8
def wpX3_inState (post : Int32 → MS → Prop) (mo : MS) (p0 : Int32) : Prop := wpX3_isFrom (fun r8 => (r8 = 0 → wpX3_no (fun r24 mo24 => post r24 mo24) (0, mo.2.1, mo.2.2.1, mo.2.2.2.1, mo.2.2.2.2.1, mo.2.2.2.2.2.1, mo.2.2.2.2.2.2.1, mo.2.2.2.2.2.2.2.1, mo.2.2.2.2.2.2.2.2.1, mo.2.2.2.2.2.2.2.2.2.1, mo.2.2.2.2.2.2.2.2.2.2.1, mo.2.2.2.2.2.2.2.2.2.2.2) 1) ∧ (¬ r8 = 0 → wpX3_count (fun r16 => post r16 (0, mo.2.1, mo.2.2.1, mo.2.2.2.1, mo.2.2.2.2.1, mo.2.2.2.2.2.1, mo.2.2.2.2.2.2.1, mo.2.2.2.2.2.2.2.1, mo.2.2.2.2.2.2.2.2.1, mo.2.2.2.2.2.2.2.2.2.1, mo.2.2.2.2.2.2.2.2.2.2.1, mo.2.2.2.2.2.2.2.2.2.2.2)) (0, mo.2.1, mo.2.2.1, mo.2.2.2.1, mo.2.2.2.2.1, mo.2.2.2.2.2.1, mo.2.2.2.2.2.2.1, mo.2.2.2.2.2.2.2.1, mo.2.2.2.2.2.2.2.2.1, mo.2.2.2.2.2.2.2.2.2.1, mo.2.2.2.2.2.2.2.2.2.2.1, mo.2.2.2.2.2.2.2.2.2.2.2) p0)) p0 0 5
set_option maxHeartbeats 4000000 in
set_option maxRecDepth 100000 in
theorem c_X3_inState {l : Launch} (hfl : l.stackTraces = false) {s0 : State} (hs0 : zS s0) (D : va_G) (cI cB cJ : ClassId) (mA : Nat → Nat) (mo : MS) (p0 : Int32) {post : Int32 → MS → Prop} (h : wpX3_inState post mo p0) : zW s0 l D (zty cI cB cJ) yX3_inState cX3_inState 2 (some .int) 3 0 0 [.ref (mA 0), .int p0] (wM cI mA mo) (fun u : Int32 × MS => some (Value.int u.1)) (fun u : Int32 × MS => post u.1 u.2) (fun u : Int32 × MS => wM cI mA u.2) := by
  refine zW_intro (by decide +kernel) (Nat.le_of_ble_eq_true rfl) ?_
  intro p e s m below meth c A C hnm hA hG hP hD hS ls hl
  have C : zC D (zty cI cB cJ) p s m ([.ref (mA 0), .int p0] : List Value).toArray meth c cX3_inState RX3 (some .int) 2 := C
  have hx := C.1
  have hb := C.2.1
  have hts := C.2.2.1
  have hown := C.2.2.2.1
  have hml := C.2.2.2.2.2.1
  have hK := C.2.2.2.2.2.2.2
  have hl : lv_has ls 2 [(0, .ref (mA 0)), (1, .int p0)] := hl
  have hP : va_P D vwCl (wM cI mA mo) s.heap := hP
  have hD : va_D A (wM cI mA mo) := hD
  unfold wpX3_inState at h
  refine lv_aload_n hx hb dX3_inState_0 rfl (lv_at hl 0 rfl) ?_
  refine lv_iconst (v := 0) hx hb dX3_inState_1 (by decide) ?_
  refine z_put C f_X3_44 zt_X3 rfl rfl rfl rfl hP hD hS (q0 := 0) rfl (Nat.le_of_ble_eq_true rfl) dX3_inState_2 (fun H locs hP hD hS => ?_)
  have hP : va_P D vwCl (wM cI mA (0, mo.2.1, mo.2.2.1, mo.2.2.2.1, mo.2.2.2.2.1, mo.2.2.2.2.2.1, mo.2.2.2.2.2.2.1, mo.2.2.2.2.2.2.2.1, mo.2.2.2.2.2.2.2.2.1, mo.2.2.2.2.2.2.2.2.2.1, mo.2.2.2.2.2.2.2.2.2.2.1, mo.2.2.2.2.2.2.2.2.2.2.2)) H := hP
  have hD : va_D A (wM cI mA (0, mo.2.1, mo.2.2.1, mo.2.2.2.1, mo.2.2.2.2.1, mo.2.2.2.2.2.1, mo.2.2.2.2.2.2.1, mo.2.2.2.2.2.2.2.1, mo.2.2.2.2.2.2.2.2.1, mo.2.2.2.2.2.2.2.2.2.1, mo.2.2.2.2.2.2.2.2.2.2.1, mo.2.2.2.2.2.2.2.2.2.2.2)) := hD
  refine lv_iload_n hx hb dX3_inState_5 rfl (lv_at hl 1 rfl) ?_
  refine lv_iconst (v := 0) hx hb dX3_inState_6 (by decide) ?_
  refine lv_iconst (v := 5) hx hb dX3_inState_7 (by decide) ?_
  refine z_RS (As := [.int p0, .int 0, .int 5]) (rest := []) [] C (hG.kept hS.1 hS.2.1).none hP (c_X3_isFrom hfl hs0 D cI cB cJ p0 0 5 h) q66 v_X3_isFrom rfl rfl ⟨(Nat.le_of_ble_eq_true rfl), (Nat.le_of_ble_eq_true rfl)⟩ ⟨(Nat.le_of_ble_eq_true rfl), (Nat.le_of_ble_eq_true rfl)⟩ hl.1 rfl (lv_room (Nat.le_of_ble_eq_true rfl)) dX3_inState_8 (fun r8 h => ?_)
  refine lv_if_eq (tgt := 22) hx hb dX3_inState_11 (by decide) (fun c11 => ?_) (fun c11 => ?_)
  · have h := h.1 c11
    refine lv_aload_n hx hb dX3_inState_22 rfl (lv_at hl 0 rfl) ?_
    refine lv_iconst (v := 1) hx hb dX3_inState_23 (by decide) ?_
    refine z_WV (As := [.int 1]) (rest := []) (wr := ([] : va_W)) (wN := (fun u : Int32 × MS => wM cI mA u.2)) [0, 1, 2, 3, 4, 5, 6, 7, 8, 9] [] [0, 1, 2, 3, 4, 5, 6, 7, 8, 9] C hG hA hP hD hS (c_X3_no hfl hs0 D cI cB cJ mA (0, mo.2.1, mo.2.2.1, mo.2.2.2.1, mo.2.2.2.2.1, mo.2.2.2.2.2.1, mo.2.2.2.2.2.2.1, mo.2.2.2.2.2.2.2.1, mo.2.2.2.2.2.2.2.2.1, mo.2.2.2.2.2.2.2.2.2.1, mo.2.2.2.2.2.2.2.2.2.2.1, mo.2.2.2.2.2.2.2.2.2.2.2) 1 h) q122 v_X3_no rfl rfl ⟨by decide, by decide, by decide⟩ (by decide) (fun _ => rfl) rfl rfl rfl ⟨(Nat.le_of_ble_eq_true rfl), (Nat.le_of_ble_eq_true rfl)⟩ ⟨(Nat.le_of_ble_eq_true rfl), (Nat.le_of_ble_eq_true rfl)⟩ hl.1 rfl (lv_room (Nat.le_of_ble_eq_true rfl)) dX3_inState_24 (fun u H locs h hP hD hS => ?_)
    obtain ⟨r24, mo24⟩ := u
    have hP : va_P D vwCl (wM cI mA mo24) H := hP
    have hD : va_D A (wM cI mA mo24) := hD
    exact zW_iret C (r24, mo24) rfl h hP hD hS (Nat.le_of_ble_eq_true rfl) (Nat.le_of_ble_eq_true rfl) dX3_inState_27
  · have h := h.2 c11
    refine lv_aload_n hx hb dX3_inState_14 rfl (lv_at hl 0 rfl) ?_
    refine lv_iload_n hx hb dX3_inState_15 rfl (lv_at hl 1 rfl) ?_
    refine z_RV (As := [.int p0]) (rest := []) [0, 1, 2, 3, 4, 5, 6, 7, 8, 9] C (hG.kept hS.1 hS.2.1).none hP (c_X3_count hfl hs0 D cI cB cJ mA (0, mo.2.1, mo.2.2.1, mo.2.2.2.1, mo.2.2.2.2.1, mo.2.2.2.2.2.1, mo.2.2.2.2.2.2.1, mo.2.2.2.2.2.2.2.1, mo.2.2.2.2.2.2.2.2.1, mo.2.2.2.2.2.2.2.2.2.1, mo.2.2.2.2.2.2.2.2.2.2.1, mo.2.2.2.2.2.2.2.2.2.2.2) p0 h) q142 v_X3_count rfl rfl rfl rfl ⟨(Nat.le_of_ble_eq_true rfl), (Nat.le_of_ble_eq_true rfl)⟩ ⟨(Nat.le_of_ble_eq_true rfl), (Nat.le_of_ble_eq_true rfl)⟩ hl.1 rfl (lv_room (Nat.le_of_ble_eq_true rfl)) dX3_inState_16 (fun r16 h => ?_)
    refine lv_goto (tgt := 27) hx hb dX3_inState_19 (by decide) ?_
    exact zW_iret C (r16, (0, mo.2.1, mo.2.2.1, mo.2.2.2.1, mo.2.2.2.2.1, mo.2.2.2.2.2.1, mo.2.2.2.2.2.2.1, mo.2.2.2.2.2.2.2.1, mo.2.2.2.2.2.2.2.2.1, mo.2.2.2.2.2.2.2.2.2.1, mo.2.2.2.2.2.2.2.2.2.2.1, mo.2.2.2.2.2.2.2.2.2.2.2)) rfl h hP hD hS (Nat.le_of_ble_eq_true rfl) (Nat.le_of_ble_eq_true rfl) dX3_inState_27
def wpX3_purseOf (post : Int32 → MS → Prop) (mo : MS) (p0 : Int32) : Prop := wpX3_isParty (fun r7 => (r7 = 0 → wpX3_no (fun r26 mo26 => post r26 mo26) (0, mo.2.1, mo.2.2.1, mo.2.2.2.1, mo.2.2.2.2.1, mo.2.2.2.2.2.1, mo.2.2.2.2.2.2.1, mo.2.2.2.2.2.2.2.1, mo.2.2.2.2.2.2.2.2.1, mo.2.2.2.2.2.2.2.2.2.1, mo.2.2.2.2.2.2.2.2.2.2.1, mo.2.2.2.2.2.2.2.2.2.2.2) 1) ∧ (¬ r7 = 0 → vp_in (2 + p0) 68 ∧ (post (mo.2.2.2.2.2.2.2.2.2.2.1 (2 + p0).toNatClampNeg) (0, mo.2.1, mo.2.2.1, mo.2.2.2.1, mo.2.2.2.2.1, mo.2.2.2.2.2.1, mo.2.2.2.2.2.2.1, mo.2.2.2.2.2.2.2.1, mo.2.2.2.2.2.2.2.2.1, mo.2.2.2.2.2.2.2.2.2.1, mo.2.2.2.2.2.2.2.2.2.2.1, mo.2.2.2.2.2.2.2.2.2.2.2)))) (0, mo.2.1, mo.2.2.1, mo.2.2.2.1, mo.2.2.2.2.1, mo.2.2.2.2.2.1, mo.2.2.2.2.2.2.1, mo.2.2.2.2.2.2.2.1, mo.2.2.2.2.2.2.2.2.1, mo.2.2.2.2.2.2.2.2.2.1, mo.2.2.2.2.2.2.2.2.2.2.1, mo.2.2.2.2.2.2.2.2.2.2.2) p0
set_option maxHeartbeats 4000000 in
set_option maxRecDepth 100000 in
theorem c_X3_purseOf {l : Launch} (hfl : l.stackTraces = false) {s0 : State} (hs0 : zS s0) (D : va_G) (cI cB cJ : ClassId) (mA : Nat → Nat) (mo : MS) (p0 : Int32) {post : Int32 → MS → Prop} (h : wpX3_purseOf post mo p0) : zW s0 l D (zty cI cB cJ) yX3_purseOf cX3_purseOf 2 (some .int) 3 0 0 [.ref (mA 0), .int p0] (wM cI mA mo) (fun u : Int32 × MS => some (Value.int u.1)) (fun u : Int32 × MS => post u.1 u.2) (fun u : Int32 × MS => wM cI mA u.2) := by
  refine zW_intro (by decide +kernel) (Nat.le_of_ble_eq_true rfl) ?_
  intro p e s m below meth c A C hnm hA hG hP hD hS ls hl
  have C : zC D (zty cI cB cJ) p s m ([.ref (mA 0), .int p0] : List Value).toArray meth c cX3_purseOf RX3 (some .int) 2 := C
  have hx := C.1
  have hb := C.2.1
  have hts := C.2.2.1
  have hown := C.2.2.2.1
  have hml := C.2.2.2.2.2.1
  have hK := C.2.2.2.2.2.2.2
  have hl : lv_has ls 2 [(0, .ref (mA 0)), (1, .int p0)] := hl
  have hP : va_P D vwCl (wM cI mA mo) s.heap := hP
  have hD : va_D A (wM cI mA mo) := hD
  unfold wpX3_purseOf at h
  refine lv_aload_n hx hb dX3_purseOf_0 rfl (lv_at hl 0 rfl) ?_
  refine lv_iconst (v := 0) hx hb dX3_purseOf_1 (by decide) ?_
  refine z_put C f_X3_44 zt_X3 rfl rfl rfl rfl hP hD hS (q0 := 0) rfl (Nat.le_of_ble_eq_true rfl) dX3_purseOf_2 (fun H locs hP hD hS => ?_)
  have hP : va_P D vwCl (wM cI mA (0, mo.2.1, mo.2.2.1, mo.2.2.2.1, mo.2.2.2.2.1, mo.2.2.2.2.2.1, mo.2.2.2.2.2.2.1, mo.2.2.2.2.2.2.2.1, mo.2.2.2.2.2.2.2.2.1, mo.2.2.2.2.2.2.2.2.2.1, mo.2.2.2.2.2.2.2.2.2.2.1, mo.2.2.2.2.2.2.2.2.2.2.2)) H := hP
  have hD : va_D A (wM cI mA (0, mo.2.1, mo.2.2.1, mo.2.2.2.1, mo.2.2.2.2.1, mo.2.2.2.2.2.1, mo.2.2.2.2.2.2.1, mo.2.2.2.2.2.2.2.1, mo.2.2.2.2.2.2.2.2.1, mo.2.2.2.2.2.2.2.2.2.1, mo.2.2.2.2.2.2.2.2.2.2.1, mo.2.2.2.2.2.2.2.2.2.2.2)) := hD
  refine lv_aload_n hx hb dX3_purseOf_5 rfl (lv_at hl 0 rfl) ?_
  refine lv_iload_n hx hb dX3_purseOf_6 rfl (lv_at hl 1 rfl) ?_
  refine z_RV (As := [.int p0]) (rest := []) [0, 1, 2, 3, 4, 5, 6, 7, 8, 9] C (hG.kept hS.1 hS.2.1).none hP (c_X3_isParty hfl hs0 D cI cB cJ mA (0, mo.2.1, mo.2.2.1, mo.2.2.2.1, mo.2.2.2.2.1, mo.2.2.2.2.2.1, mo.2.2.2.2.2.2.1, mo.2.2.2.2.2.2.2.1, mo.2.2.2.2.2.2.2.2.1, mo.2.2.2.2.2.2.2.2.2.1, mo.2.2.2.2.2.2.2.2.2.2.1, mo.2.2.2.2.2.2.2.2.2.2.2) p0 h) q126 v_X3_isParty rfl rfl rfl rfl ⟨(Nat.le_of_ble_eq_true rfl), (Nat.le_of_ble_eq_true rfl)⟩ ⟨(Nat.le_of_ble_eq_true rfl), (Nat.le_of_ble_eq_true rfl)⟩ hl.1 rfl (lv_room (Nat.le_of_ble_eq_true rfl)) dX3_purseOf_7 (fun r7 h => ?_)
  refine lv_if_eq (tgt := 24) hx hb dX3_purseOf_10 (by decide) (fun c10 => ?_) (fun c10 => ?_)
  · have h := h.1 c10
    refine lv_aload_n hx hb dX3_purseOf_24 rfl (lv_at hl 0 rfl) ?_
    refine lv_iconst (v := 1) hx hb dX3_purseOf_25 (by decide) ?_
    refine z_WV (As := [.int 1]) (rest := []) (wr := ([] : va_W)) (wN := (fun u : Int32 × MS => wM cI mA u.2)) [0, 1, 2, 3, 4, 5, 6, 7, 8, 9] [] [0, 1, 2, 3, 4, 5, 6, 7, 8, 9] C hG hA hP hD hS (c_X3_no hfl hs0 D cI cB cJ mA (0, mo.2.1, mo.2.2.1, mo.2.2.2.1, mo.2.2.2.2.1, mo.2.2.2.2.2.1, mo.2.2.2.2.2.2.1, mo.2.2.2.2.2.2.2.1, mo.2.2.2.2.2.2.2.2.1, mo.2.2.2.2.2.2.2.2.2.1, mo.2.2.2.2.2.2.2.2.2.2.1, mo.2.2.2.2.2.2.2.2.2.2.2) 1 h) q122 v_X3_no rfl rfl ⟨by decide, by decide, by decide⟩ (by decide) (fun _ => rfl) rfl rfl rfl ⟨(Nat.le_of_ble_eq_true rfl), (Nat.le_of_ble_eq_true rfl)⟩ ⟨(Nat.le_of_ble_eq_true rfl), (Nat.le_of_ble_eq_true rfl)⟩ hl.1 rfl (lv_room (Nat.le_of_ble_eq_true rfl)) dX3_purseOf_26 (fun u H locs h hP hD hS => ?_)
    obtain ⟨r26, mo26⟩ := u
    have hP : va_P D vwCl (wM cI mA mo26) H := hP
    have hD : va_D A (wM cI mA mo26) := hD
    exact zW_iret C (r26, mo26) rfl h hP hD hS (Nat.le_of_ble_eq_true rfl) (Nat.le_of_ble_eq_true rfl) dX3_purseOf_29
  · have h := h.2 c10
    refine lv_aload_n hx hb dX3_purseOf_13 rfl (lv_at hl 0 rfl) ?_
    refine z_get C f_X3_31 hP (q0 := 0) rfl rfl dX3_purseOf_14 ?_
    refine lv_iconst (v := 2) hx hb dX3_purseOf_17 (by decide) ?_
    refine lv_iload_n hx hb dX3_purseOf_18 rfl (lv_at hl 1 rfl) ?_
    refine lv_iadd hx hb dX3_purseOf_19 ?_
    obtain ⟨g9, h⟩ := h
    refine va_iald hx hb hK hP 8 0 rfl rfl g9 dX3_purseOf_20 ?_
    refine lv_goto (tgt := 29) hx hb dX3_purseOf_21 (by decide) ?_
    exact zW_iret C ((mo.2.2.2.2.2.2.2.2.2.2.1 (2 + p0).toNatClampNeg), (0, mo.2.1, mo.2.2.1, mo.2.2.2.1, mo.2.2.2.2.1, mo.2.2.2.2.2.1, mo.2.2.2.2.2.2.1, mo.2.2.2.2.2.2.2.1, mo.2.2.2.2.2.2.2.2.1, mo.2.2.2.2.2.2.2.2.2.1, mo.2.2.2.2.2.2.2.2.2.2.1, mo.2.2.2.2.2.2.2.2.2.2.2)) rfl h hP hD hS (Nat.le_of_ble_eq_true rfl) (Nat.le_of_ble_eq_true rfl) dX3_purseOf_29
def wpX3_penalties (post : Int32 → MS → Prop) (mo : MS) : Prop := vp_in 1 68 ∧ (wpX3_ok (fun r7 mo7 => post r7 mo7) mo (mo.2.2.2.2.2.2.2.2.2.2.1 (1 : Int32).toNatClampNeg))
set_option maxHeartbeats 4000000 in
set_option maxRecDepth 100000 in
theorem c_X3_penalties {l : Launch} (hfl : l.stackTraces = false) {s0 : State} (hs0 : zS s0) (D : va_G) (cI cB cJ : ClassId) (mA : Nat → Nat) (mo : MS) {post : Int32 → MS → Prop} (h : wpX3_penalties post mo) : zW s0 l D (zty cI cB cJ) yX3_penalties cX3_penalties 1 (some .int) 2 0 0 [.ref (mA 0)] (wM cI mA mo) (fun u : Int32 × MS => some (Value.int u.1)) (fun u : Int32 × MS => post u.1 u.2) (fun u : Int32 × MS => wM cI mA u.2) := by
  refine zW_intro (by decide +kernel) (Nat.le_of_ble_eq_true rfl) ?_
  intro p e s m below meth c A C hnm hA hG hP hD hS ls hl
  have C : zC D (zty cI cB cJ) p s m ([.ref (mA 0)] : List Value).toArray meth c cX3_penalties RX3 (some .int) 1 := C
  have hx := C.1
  have hb := C.2.1
  have hts := C.2.2.1
  have hown := C.2.2.2.1
  have hml := C.2.2.2.2.2.1
  have hK := C.2.2.2.2.2.2.2
  have hl : lv_has ls 1 [(0, .ref (mA 0))] := hl
  have hP : va_P D vwCl (wM cI mA mo) s.heap := hP
  have hD : va_D A (wM cI mA mo) := hD
  unfold wpX3_penalties at h
  refine lv_aload_n hx hb dX3_penalties_0 rfl (lv_at hl 0 rfl) ?_
  refine lv_aload_n hx hb dX3_penalties_1 rfl (lv_at hl 0 rfl) ?_
  refine z_get C f_X3_31 hP (q0 := 0) rfl rfl dX3_penalties_2 ?_
  refine lv_iconst (v := 1) hx hb dX3_penalties_5 (by decide) ?_
  obtain ⟨g9, h⟩ := h
  refine va_iald hx hb hK hP 8 0 rfl rfl g9 dX3_penalties_6 ?_
  refine z_WV (As := [.int (mo.2.2.2.2.2.2.2.2.2.2.1 (1 : Int32).toNatClampNeg)]) (rest := []) (wr := ([] : va_W)) (wN := (fun u : Int32 × MS => wM cI mA u.2)) [0, 1, 2, 3, 4, 5, 6, 7, 8, 9] [] [0, 1, 2, 3, 4, 5, 6, 7, 8, 9] C hG hA hP hD hS (c_X3_ok hfl hs0 D cI cB cJ mA mo (mo.2.2.2.2.2.2.2.2.2.2.1 (1 : Int32).toNatClampNeg) h) q150 v_X3_ok rfl rfl ⟨by decide, by decide, by decide⟩ (by decide) (fun _ => rfl) rfl rfl rfl ⟨(Nat.le_of_ble_eq_true rfl), (Nat.le_of_ble_eq_true rfl)⟩ ⟨(Nat.le_of_ble_eq_true rfl), (Nat.le_of_ble_eq_true rfl)⟩ hl.1 rfl (lv_room (Nat.le_of_ble_eq_true rfl)) dX3_penalties_7 (fun u H locs h hP hD hS => ?_)
  obtain ⟨r7, mo7⟩ := u
  have hP : va_P D vwCl (wM cI mA mo7) H := hP
  have hD : va_D A (wM cI mA mo7) := hD
  exact zW_iret C (r7, mo7) rfl h hP hD hS (Nat.le_of_ble_eq_true rfl) (Nat.le_of_ble_eq_true rfl) dX3_penalties_10
def wpX3_ofDuty (post : Int32 → MS → Prop) (mo : MS) (p0 : Int32) (p1 : Int32) : Prop := wpX3_isDuty (fun r7 => (r7 = 0 → wpX3_no (fun r26 mo26 => post r26 mo26) (0, mo.2.1, mo.2.2.1, mo.2.2.2.1, mo.2.2.2.2.1, mo.2.2.2.2.2.1, mo.2.2.2.2.2.2.1, mo.2.2.2.2.2.2.2.1, mo.2.2.2.2.2.2.2.2.1, mo.2.2.2.2.2.2.2.2.2.1, mo.2.2.2.2.2.2.2.2.2.2.1, mo.2.2.2.2.2.2.2.2.2.2.2) 1) ∧ (¬ r7 = 0 → vp_in (p1 + p0) 68 ∧ (post (mo.2.2.2.2.2.2.2.2.2.2.1 (p1 + p0).toNatClampNeg) (0, mo.2.1, mo.2.2.1, mo.2.2.2.1, mo.2.2.2.2.1, mo.2.2.2.2.2.1, mo.2.2.2.2.2.2.1, mo.2.2.2.2.2.2.2.1, mo.2.2.2.2.2.2.2.2.1, mo.2.2.2.2.2.2.2.2.2.1, mo.2.2.2.2.2.2.2.2.2.2.1, mo.2.2.2.2.2.2.2.2.2.2.2)))) (0, mo.2.1, mo.2.2.1, mo.2.2.2.1, mo.2.2.2.2.1, mo.2.2.2.2.2.1, mo.2.2.2.2.2.2.1, mo.2.2.2.2.2.2.2.1, mo.2.2.2.2.2.2.2.2.1, mo.2.2.2.2.2.2.2.2.2.1, mo.2.2.2.2.2.2.2.2.2.2.1, mo.2.2.2.2.2.2.2.2.2.2.2) p0
set_option maxHeartbeats 4000000 in
set_option maxRecDepth 100000 in
theorem c_X3_ofDuty {l : Launch} (hfl : l.stackTraces = false) {s0 : State} (hs0 : zS s0) (D : va_G) (cI cB cJ : ClassId) (mA : Nat → Nat) (mo : MS) (p0 : Int32) (p1 : Int32) {post : Int32 → MS → Prop} (h : wpX3_ofDuty post mo p0 p1) : zW s0 l D (zty cI cB cJ) yX3_ofDuty cX3_ofDuty 3 (some .int) 3 0 0 [.ref (mA 0), .int p0, .int p1] (wM cI mA mo) (fun u : Int32 × MS => some (Value.int u.1)) (fun u : Int32 × MS => post u.1 u.2) (fun u : Int32 × MS => wM cI mA u.2) := by
  refine zW_intro (by decide +kernel) (Nat.le_of_ble_eq_true rfl) ?_
  intro p e s m below meth c A C hnm hA hG hP hD hS ls hl
  have C : zC D (zty cI cB cJ) p s m ([.ref (mA 0), .int p0, .int p1] : List Value).toArray meth c cX3_ofDuty RX3 (some .int) 3 := C
  have hx := C.1
  have hb := C.2.1
  have hts := C.2.2.1
  have hown := C.2.2.2.1
  have hml := C.2.2.2.2.2.1
  have hK := C.2.2.2.2.2.2.2
  have hl : lv_has ls 3 [(0, .ref (mA 0)), (1, .int p0), (2, .int p1)] := hl
  have hP : va_P D vwCl (wM cI mA mo) s.heap := hP
  have hD : va_D A (wM cI mA mo) := hD
  unfold wpX3_ofDuty at h
  refine lv_aload_n hx hb dX3_ofDuty_0 rfl (lv_at hl 0 rfl) ?_
  refine lv_iconst (v := 0) hx hb dX3_ofDuty_1 (by decide) ?_
  refine z_put C f_X3_44 zt_X3 rfl rfl rfl rfl hP hD hS (q0 := 0) rfl (Nat.le_of_ble_eq_true rfl) dX3_ofDuty_2 (fun H locs hP hD hS => ?_)
  have hP : va_P D vwCl (wM cI mA (0, mo.2.1, mo.2.2.1, mo.2.2.2.1, mo.2.2.2.2.1, mo.2.2.2.2.2.1, mo.2.2.2.2.2.2.1, mo.2.2.2.2.2.2.2.1, mo.2.2.2.2.2.2.2.2.1, mo.2.2.2.2.2.2.2.2.2.1, mo.2.2.2.2.2.2.2.2.2.2.1, mo.2.2.2.2.2.2.2.2.2.2.2)) H := hP
  have hD : va_D A (wM cI mA (0, mo.2.1, mo.2.2.1, mo.2.2.2.1, mo.2.2.2.2.1, mo.2.2.2.2.2.1, mo.2.2.2.2.2.2.1, mo.2.2.2.2.2.2.2.1, mo.2.2.2.2.2.2.2.2.1, mo.2.2.2.2.2.2.2.2.2.1, mo.2.2.2.2.2.2.2.2.2.2.1, mo.2.2.2.2.2.2.2.2.2.2.2)) := hD
  refine lv_aload_n hx hb dX3_ofDuty_5 rfl (lv_at hl 0 rfl) ?_
  refine lv_iload_n hx hb dX3_ofDuty_6 rfl (lv_at hl 1 rfl) ?_
  refine z_RV (As := [.int p0]) (rest := []) [0, 1, 2, 3, 4, 5, 6, 7, 8, 9] C (hG.kept hS.1 hS.2.1).none hP (c_X3_isDuty hfl hs0 D cI cB cJ mA (0, mo.2.1, mo.2.2.1, mo.2.2.2.1, mo.2.2.2.2.1, mo.2.2.2.2.2.1, mo.2.2.2.2.2.2.1, mo.2.2.2.2.2.2.2.1, mo.2.2.2.2.2.2.2.2.1, mo.2.2.2.2.2.2.2.2.2.1, mo.2.2.2.2.2.2.2.2.2.2.1, mo.2.2.2.2.2.2.2.2.2.2.2) p0 h) q130 v_X3_isDuty rfl rfl rfl rfl ⟨(Nat.le_of_ble_eq_true rfl), (Nat.le_of_ble_eq_true rfl)⟩ ⟨(Nat.le_of_ble_eq_true rfl), (Nat.le_of_ble_eq_true rfl)⟩ hl.1 rfl (lv_room (Nat.le_of_ble_eq_true rfl)) dX3_ofDuty_7 (fun r7 h => ?_)
  refine lv_if_eq (tgt := 24) hx hb dX3_ofDuty_10 (by decide) (fun c10 => ?_) (fun c10 => ?_)
  · have h := h.1 c10
    refine lv_aload_n hx hb dX3_ofDuty_24 rfl (lv_at hl 0 rfl) ?_
    refine lv_iconst (v := 1) hx hb dX3_ofDuty_25 (by decide) ?_
    refine z_WV (As := [.int 1]) (rest := []) (wr := ([] : va_W)) (wN := (fun u : Int32 × MS => wM cI mA u.2)) [0, 1, 2, 3, 4, 5, 6, 7, 8, 9] [] [0, 1, 2, 3, 4, 5, 6, 7, 8, 9] C hG hA hP hD hS (c_X3_no hfl hs0 D cI cB cJ mA (0, mo.2.1, mo.2.2.1, mo.2.2.2.1, mo.2.2.2.2.1, mo.2.2.2.2.2.1, mo.2.2.2.2.2.2.1, mo.2.2.2.2.2.2.2.1, mo.2.2.2.2.2.2.2.2.1, mo.2.2.2.2.2.2.2.2.2.1, mo.2.2.2.2.2.2.2.2.2.2.1, mo.2.2.2.2.2.2.2.2.2.2.2) 1 h) q122 v_X3_no rfl rfl ⟨by decide, by decide, by decide⟩ (by decide) (fun _ => rfl) rfl rfl rfl ⟨(Nat.le_of_ble_eq_true rfl), (Nat.le_of_ble_eq_true rfl)⟩ ⟨(Nat.le_of_ble_eq_true rfl), (Nat.le_of_ble_eq_true rfl)⟩ hl.1 rfl (lv_room (Nat.le_of_ble_eq_true rfl)) dX3_ofDuty_26 (fun u H locs h hP hD hS => ?_)
    obtain ⟨r26, mo26⟩ := u
    have hP : va_P D vwCl (wM cI mA mo26) H := hP
    have hD : va_D A (wM cI mA mo26) := hD
    exact zW_iret C (r26, mo26) rfl h hP hD hS (Nat.le_of_ble_eq_true rfl) (Nat.le_of_ble_eq_true rfl) dX3_ofDuty_29
  · have h := h.2 c10
    refine lv_aload_n hx hb dX3_ofDuty_13 rfl (lv_at hl 0 rfl) ?_
    refine z_get C f_X3_31 hP (q0 := 0) rfl rfl dX3_ofDuty_14 ?_
    refine lv_iload_n hx hb dX3_ofDuty_17 rfl (lv_at hl 2 rfl) ?_
    refine lv_iload_n hx hb dX3_ofDuty_18 rfl (lv_at hl 1 rfl) ?_
    refine lv_iadd hx hb dX3_ofDuty_19 ?_
    obtain ⟨g9, h⟩ := h
    refine va_iald hx hb hK hP 8 0 rfl rfl g9 dX3_ofDuty_20 ?_
    refine lv_goto (tgt := 29) hx hb dX3_ofDuty_21 (by decide) ?_
    exact zW_iret C ((mo.2.2.2.2.2.2.2.2.2.2.1 (p1 + p0).toNatClampNeg), (0, mo.2.1, mo.2.2.1, mo.2.2.2.1, mo.2.2.2.2.1, mo.2.2.2.2.2.1, mo.2.2.2.2.2.2.1, mo.2.2.2.2.2.2.2.1, mo.2.2.2.2.2.2.2.2.1, mo.2.2.2.2.2.2.2.2.2.1, mo.2.2.2.2.2.2.2.2.2.2.1, mo.2.2.2.2.2.2.2.2.2.2.2)) rfl h hP hD hS (Nat.le_of_ble_eq_true rfl) (Nat.le_of_ble_eq_true rfl) dX3_ofDuty_29
def wpX3_stateOf (post : Int32 → MS → Prop) (mo : MS) (p0 : Int32) : Prop := wpX3_ofDuty (fun r4 mo4 => post r4 mo4) mo p0 8
set_option maxHeartbeats 4000000 in
set_option maxRecDepth 100000 in
theorem c_X3_stateOf {l : Launch} (hfl : l.stackTraces = false) {s0 : State} (hs0 : zS s0) (D : va_G) (cI cB cJ : ClassId) (mA : Nat → Nat) (mo : MS) (p0 : Int32) {post : Int32 → MS → Prop} (h : wpX3_stateOf post mo p0) : zW s0 l D (zty cI cB cJ) yX3_stateOf cX3_stateOf 2 (some .int) 4 0 0 [.ref (mA 0), .int p0] (wM cI mA mo) (fun u : Int32 × MS => some (Value.int u.1)) (fun u : Int32 × MS => post u.1 u.2) (fun u : Int32 × MS => wM cI mA u.2) := by
  refine zW_intro (by decide +kernel) (Nat.le_of_ble_eq_true rfl) ?_
  intro p e s m below meth c A C hnm hA hG hP hD hS ls hl
  have C : zC D (zty cI cB cJ) p s m ([.ref (mA 0), .int p0] : List Value).toArray meth c cX3_stateOf RX3 (some .int) 2 := C
  have hx := C.1
  have hb := C.2.1
  have hts := C.2.2.1
  have hown := C.2.2.2.1
  have hml := C.2.2.2.2.2.1
  have hK := C.2.2.2.2.2.2.2
  have hl : lv_has ls 2 [(0, .ref (mA 0)), (1, .int p0)] := hl
  have hP : va_P D vwCl (wM cI mA mo) s.heap := hP
  have hD : va_D A (wM cI mA mo) := hD
  unfold wpX3_stateOf at h
  refine lv_aload_n hx hb dX3_stateOf_0 rfl (lv_at hl 0 rfl) ?_
  refine lv_iload_n hx hb dX3_stateOf_1 rfl (lv_at hl 1 rfl) ?_
  refine lv_bipush (v := 8) hx hb dX3_stateOf_2 (by decide) ?_
  refine z_WV (As := [.int p0, .int 8]) (rest := []) (wr := ([] : va_W)) (wN := (fun u : Int32 × MS => wM cI mA u.2)) [0, 1, 2, 3, 4, 5, 6, 7, 8, 9] [] [0, 1, 2, 3, 4, 5, 6, 7, 8, 9] C hG hA hP hD hS (c_X3_ofDuty hfl hs0 D cI cB cJ mA mo p0 8 h) q154 v_X3_ofDuty rfl rfl ⟨by decide, by decide, by decide⟩ (by decide) (fun _ => rfl) rfl rfl rfl ⟨(Nat.le_of_ble_eq_true rfl), (Nat.le_of_ble_eq_true rfl)⟩ ⟨(Nat.le_of_ble_eq_true rfl), (Nat.le_of_ble_eq_true rfl)⟩ hl.1 rfl (lv_room (Nat.le_of_ble_eq_true rfl)) dX3_stateOf_4 (fun u H locs h hP hD hS => ?_)
  obtain ⟨r4, mo4⟩ := u
  have hP : va_P D vwCl (wM cI mA mo4) H := hP
  have hD : va_D A (wM cI mA mo4) := hD
  exact zW_iret C (r4, mo4) rfl h hP hD hS (Nat.le_of_ble_eq_true rfl) (Nat.le_of_ble_eq_true rfl) dX3_stateOf_7
def wpX3_daysLeft (post : Int32 → MS → Prop) (mo : MS) (p0 : Int32) : Prop := wpX3_ofDuty (fun r4 mo4 => post r4 mo4) mo p0 28
set_option maxHeartbeats 4000000 in
set_option maxRecDepth 100000 in
theorem c_X3_daysLeft {l : Launch} (hfl : l.stackTraces = false) {s0 : State} (hs0 : zS s0) (D : va_G) (cI cB cJ : ClassId) (mA : Nat → Nat) (mo : MS) (p0 : Int32) {post : Int32 → MS → Prop} (h : wpX3_daysLeft post mo p0) : zW s0 l D (zty cI cB cJ) yX3_daysLeft cX3_daysLeft 2 (some .int) 4 0 0 [.ref (mA 0), .int p0] (wM cI mA mo) (fun u : Int32 × MS => some (Value.int u.1)) (fun u : Int32 × MS => post u.1 u.2) (fun u : Int32 × MS => wM cI mA u.2) := by
  refine zW_intro (by decide +kernel) (Nat.le_of_ble_eq_true rfl) ?_
  intro p e s m below meth c A C hnm hA hG hP hD hS ls hl
  have C : zC D (zty cI cB cJ) p s m ([.ref (mA 0), .int p0] : List Value).toArray meth c cX3_daysLeft RX3 (some .int) 2 := C
  have hx := C.1
  have hb := C.2.1
  have hts := C.2.2.1
  have hown := C.2.2.2.1
  have hml := C.2.2.2.2.2.1
  have hK := C.2.2.2.2.2.2.2
  have hl : lv_has ls 2 [(0, .ref (mA 0)), (1, .int p0)] := hl
  have hP : va_P D vwCl (wM cI mA mo) s.heap := hP
  have hD : va_D A (wM cI mA mo) := hD
  unfold wpX3_daysLeft at h
  refine lv_aload_n hx hb dX3_daysLeft_0 rfl (lv_at hl 0 rfl) ?_
  refine lv_iload_n hx hb dX3_daysLeft_1 rfl (lv_at hl 1 rfl) ?_
  refine lv_bipush (v := 28) hx hb dX3_daysLeft_2 (by decide) ?_
  refine z_WV (As := [.int p0, .int 28]) (rest := []) (wr := ([] : va_W)) (wN := (fun u : Int32 × MS => wM cI mA u.2)) [0, 1, 2, 3, 4, 5, 6, 7, 8, 9] [] [0, 1, 2, 3, 4, 5, 6, 7, 8, 9] C hG hA hP hD hS (c_X3_ofDuty hfl hs0 D cI cB cJ mA mo p0 28 h) q154 v_X3_ofDuty rfl rfl ⟨by decide, by decide, by decide⟩ (by decide) (fun _ => rfl) rfl rfl rfl ⟨(Nat.le_of_ble_eq_true rfl), (Nat.le_of_ble_eq_true rfl)⟩ ⟨(Nat.le_of_ble_eq_true rfl), (Nat.le_of_ble_eq_true rfl)⟩ hl.1 rfl (lv_room (Nat.le_of_ble_eq_true rfl)) dX3_daysLeft_4 (fun u H locs h hP hD hS => ?_)
  obtain ⟨r4, mo4⟩ := u
  have hP : va_P D vwCl (wM cI mA mo4) H := hP
  have hD : va_D A (wM cI mA mo4) := hD
  exact zW_iret C (r4, mo4) rfl h hP hD hS (Nat.le_of_ble_eq_true rfl) (Nat.le_of_ble_eq_true rfl) dX3_daysLeft_7
def wpX3_stoppedFor (post : Int32 → MS → Prop) (mo : MS) (p0 : Int32) : Prop := wpX3_ofDuty (fun r4 mo4 => post r4 mo4) mo p0 48
set_option maxHeartbeats 4000000 in
set_option maxRecDepth 100000 in
theorem c_X3_stoppedFor {l : Launch} (hfl : l.stackTraces = false) {s0 : State} (hs0 : zS s0) (D : va_G) (cI cB cJ : ClassId) (mA : Nat → Nat) (mo : MS) (p0 : Int32) {post : Int32 → MS → Prop} (h : wpX3_stoppedFor post mo p0) : zW s0 l D (zty cI cB cJ) yX3_stoppedFor cX3_stoppedFor 2 (some .int) 4 0 0 [.ref (mA 0), .int p0] (wM cI mA mo) (fun u : Int32 × MS => some (Value.int u.1)) (fun u : Int32 × MS => post u.1 u.2) (fun u : Int32 × MS => wM cI mA u.2) := by
  refine zW_intro (by decide +kernel) (Nat.le_of_ble_eq_true rfl) ?_
  intro p e s m below meth c A C hnm hA hG hP hD hS ls hl
  have C : zC D (zty cI cB cJ) p s m ([.ref (mA 0), .int p0] : List Value).toArray meth c cX3_stoppedFor RX3 (some .int) 2 := C
  have hx := C.1
  have hb := C.2.1
  have hts := C.2.2.1
  have hown := C.2.2.2.1
  have hml := C.2.2.2.2.2.1
  have hK := C.2.2.2.2.2.2.2
  have hl : lv_has ls 2 [(0, .ref (mA 0)), (1, .int p0)] := hl
  have hP : va_P D vwCl (wM cI mA mo) s.heap := hP
  have hD : va_D A (wM cI mA mo) := hD
  unfold wpX3_stoppedFor at h
  refine lv_aload_n hx hb dX3_stoppedFor_0 rfl (lv_at hl 0 rfl) ?_
  refine lv_iload_n hx hb dX3_stoppedFor_1 rfl (lv_at hl 1 rfl) ?_
  refine lv_bipush (v := 48) hx hb dX3_stoppedFor_2 (by decide) ?_
  refine z_WV (As := [.int p0, .int 48]) (rest := []) (wr := ([] : va_W)) (wN := (fun u : Int32 × MS => wM cI mA u.2)) [0, 1, 2, 3, 4, 5, 6, 7, 8, 9] [] [0, 1, 2, 3, 4, 5, 6, 7, 8, 9] C hG hA hP hD hS (c_X3_ofDuty hfl hs0 D cI cB cJ mA mo p0 48 h) q154 v_X3_ofDuty rfl rfl ⟨by decide, by decide, by decide⟩ (by decide) (fun _ => rfl) rfl rfl rfl ⟨(Nat.le_of_ble_eq_true rfl), (Nat.le_of_ble_eq_true rfl)⟩ ⟨(Nat.le_of_ble_eq_true rfl), (Nat.le_of_ble_eq_true rfl)⟩ hl.1 rfl (lv_room (Nat.le_of_ble_eq_true rfl)) dX3_stoppedFor_4 (fun u H locs h hP hD hS => ?_)
  obtain ⟨r4, mo4⟩ := u
  have hP : va_P D vwCl (wM cI mA mo4) H := hP
  have hD : va_D A (wM cI mA mo4) := hD
  exact zW_iret C (r4, mo4) rfl h hP hD hS (Nat.le_of_ble_eq_true rfl) (Nat.le_of_ble_eq_true rfl) dX3_stoppedFor_7
def wpX3_priceOf (post : Int32 → MS → Prop) (mo : MS) (p0 : Int32) : Prop := wpX3_isDuty (fun r7 => (r7 = 0 → wpX3_no (fun r23 mo23 => post r23 mo23) (0, mo.2.1, mo.2.2.1, mo.2.2.2.1, mo.2.2.2.2.1, mo.2.2.2.2.2.1, mo.2.2.2.2.2.2.1, mo.2.2.2.2.2.2.2.1, mo.2.2.2.2.2.2.2.2.1, mo.2.2.2.2.2.2.2.2.2.1, mo.2.2.2.2.2.2.2.2.2.2.1, mo.2.2.2.2.2.2.2.2.2.2.2) 1) ∧ (¬ r7 = 0 → wpX3_price (fun r15 => post r15 (0, mo.2.1, mo.2.2.1, mo.2.2.2.1, mo.2.2.2.2.1, mo.2.2.2.2.2.1, mo.2.2.2.2.2.2.1, mo.2.2.2.2.2.2.2.1, mo.2.2.2.2.2.2.2.2.1, mo.2.2.2.2.2.2.2.2.2.1, mo.2.2.2.2.2.2.2.2.2.2.1, mo.2.2.2.2.2.2.2.2.2.2.2)) (0, mo.2.1, mo.2.2.1, mo.2.2.2.1, mo.2.2.2.2.1, mo.2.2.2.2.2.1, mo.2.2.2.2.2.2.1, mo.2.2.2.2.2.2.2.1, mo.2.2.2.2.2.2.2.2.1, mo.2.2.2.2.2.2.2.2.2.1, mo.2.2.2.2.2.2.2.2.2.2.1, mo.2.2.2.2.2.2.2.2.2.2.2) p0)) (0, mo.2.1, mo.2.2.1, mo.2.2.2.1, mo.2.2.2.2.1, mo.2.2.2.2.2.1, mo.2.2.2.2.2.2.1, mo.2.2.2.2.2.2.2.1, mo.2.2.2.2.2.2.2.2.1, mo.2.2.2.2.2.2.2.2.2.1, mo.2.2.2.2.2.2.2.2.2.2.1, mo.2.2.2.2.2.2.2.2.2.2.2) p0
set_option maxHeartbeats 4000000 in
set_option maxRecDepth 100000 in
theorem c_X3_priceOf {l : Launch} (hfl : l.stackTraces = false) {s0 : State} (hs0 : zS s0) (D : va_G) (cI cB cJ : ClassId) (mA : Nat → Nat) (mo : MS) (p0 : Int32) {post : Int32 → MS → Prop} (h : wpX3_priceOf post mo p0) : zW s0 l D (zty cI cB cJ) yX3_priceOf cX3_priceOf 2 (some .int) 3 0 0 [.ref (mA 0), .int p0] (wM cI mA mo) (fun u : Int32 × MS => some (Value.int u.1)) (fun u : Int32 × MS => post u.1 u.2) (fun u : Int32 × MS => wM cI mA u.2) := by
  refine zW_intro (by decide +kernel) (Nat.le_of_ble_eq_true rfl) ?_
  intro p e s m below meth c A C hnm hA hG hP hD hS ls hl
  have C : zC D (zty cI cB cJ) p s m ([.ref (mA 0), .int p0] : List Value).toArray meth c cX3_priceOf RX3 (some .int) 2 := C
  have hx := C.1
  have hb := C.2.1
  have hts := C.2.2.1
  have hown := C.2.2.2.1
  have hml := C.2.2.2.2.2.1
  have hK := C.2.2.2.2.2.2.2
  have hl : lv_has ls 2 [(0, .ref (mA 0)), (1, .int p0)] := hl
  have hP : va_P D vwCl (wM cI mA mo) s.heap := hP
  have hD : va_D A (wM cI mA mo) := hD
  unfold wpX3_priceOf at h
  refine lv_aload_n hx hb dX3_priceOf_0 rfl (lv_at hl 0 rfl) ?_
  refine lv_iconst (v := 0) hx hb dX3_priceOf_1 (by decide) ?_
  refine z_put C f_X3_44 zt_X3 rfl rfl rfl rfl hP hD hS (q0 := 0) rfl (Nat.le_of_ble_eq_true rfl) dX3_priceOf_2 (fun H locs hP hD hS => ?_)
  have hP : va_P D vwCl (wM cI mA (0, mo.2.1, mo.2.2.1, mo.2.2.2.1, mo.2.2.2.2.1, mo.2.2.2.2.2.1, mo.2.2.2.2.2.2.1, mo.2.2.2.2.2.2.2.1, mo.2.2.2.2.2.2.2.2.1, mo.2.2.2.2.2.2.2.2.2.1, mo.2.2.2.2.2.2.2.2.2.2.1, mo.2.2.2.2.2.2.2.2.2.2.2)) H := hP
  have hD : va_D A (wM cI mA (0, mo.2.1, mo.2.2.1, mo.2.2.2.1, mo.2.2.2.2.1, mo.2.2.2.2.2.1, mo.2.2.2.2.2.2.1, mo.2.2.2.2.2.2.2.1, mo.2.2.2.2.2.2.2.2.1, mo.2.2.2.2.2.2.2.2.2.1, mo.2.2.2.2.2.2.2.2.2.2.1, mo.2.2.2.2.2.2.2.2.2.2.2)) := hD
  refine lv_aload_n hx hb dX3_priceOf_5 rfl (lv_at hl 0 rfl) ?_
  refine lv_iload_n hx hb dX3_priceOf_6 rfl (lv_at hl 1 rfl) ?_
  refine z_RV (As := [.int p0]) (rest := []) [0, 1, 2, 3, 4, 5, 6, 7, 8, 9] C (hG.kept hS.1 hS.2.1).none hP (c_X3_isDuty hfl hs0 D cI cB cJ mA (0, mo.2.1, mo.2.2.1, mo.2.2.2.1, mo.2.2.2.2.1, mo.2.2.2.2.2.1, mo.2.2.2.2.2.2.1, mo.2.2.2.2.2.2.2.1, mo.2.2.2.2.2.2.2.2.1, mo.2.2.2.2.2.2.2.2.2.1, mo.2.2.2.2.2.2.2.2.2.2.1, mo.2.2.2.2.2.2.2.2.2.2.2) p0 h) q130 v_X3_isDuty rfl rfl rfl rfl ⟨(Nat.le_of_ble_eq_true rfl), (Nat.le_of_ble_eq_true rfl)⟩ ⟨(Nat.le_of_ble_eq_true rfl), (Nat.le_of_ble_eq_true rfl)⟩ hl.1 rfl (lv_room (Nat.le_of_ble_eq_true rfl)) dX3_priceOf_7 (fun r7 h => ?_)
  refine lv_if_eq (tgt := 21) hx hb dX3_priceOf_10 (by decide) (fun c10 => ?_) (fun c10 => ?_)
  · have h := h.1 c10
    refine lv_aload_n hx hb dX3_priceOf_21 rfl (lv_at hl 0 rfl) ?_
    refine lv_iconst (v := 1) hx hb dX3_priceOf_22 (by decide) ?_
    refine z_WV (As := [.int 1]) (rest := []) (wr := ([] : va_W)) (wN := (fun u : Int32 × MS => wM cI mA u.2)) [0, 1, 2, 3, 4, 5, 6, 7, 8, 9] [] [0, 1, 2, 3, 4, 5, 6, 7, 8, 9] C hG hA hP hD hS (c_X3_no hfl hs0 D cI cB cJ mA (0, mo.2.1, mo.2.2.1, mo.2.2.2.1, mo.2.2.2.2.1, mo.2.2.2.2.2.1, mo.2.2.2.2.2.2.1, mo.2.2.2.2.2.2.2.1, mo.2.2.2.2.2.2.2.2.1, mo.2.2.2.2.2.2.2.2.2.1, mo.2.2.2.2.2.2.2.2.2.2.1, mo.2.2.2.2.2.2.2.2.2.2.2) 1 h) q122 v_X3_no rfl rfl ⟨by decide, by decide, by decide⟩ (by decide) (fun _ => rfl) rfl rfl rfl ⟨(Nat.le_of_ble_eq_true rfl), (Nat.le_of_ble_eq_true rfl)⟩ ⟨(Nat.le_of_ble_eq_true rfl), (Nat.le_of_ble_eq_true rfl)⟩ hl.1 rfl (lv_room (Nat.le_of_ble_eq_true rfl)) dX3_priceOf_23 (fun u H locs h hP hD hS => ?_)
    obtain ⟨r23, mo23⟩ := u
    have hP : va_P D vwCl (wM cI mA mo23) H := hP
    have hD : va_D A (wM cI mA mo23) := hD
    exact zW_iret C (r23, mo23) rfl h hP hD hS (Nat.le_of_ble_eq_true rfl) (Nat.le_of_ble_eq_true rfl) dX3_priceOf_26
  · have h := h.2 c10
    refine lv_aload_n hx hb dX3_priceOf_13 rfl (lv_at hl 0 rfl) ?_
    refine lv_iload_n hx hb dX3_priceOf_14 rfl (lv_at hl 1 rfl) ?_
    refine z_RV (As := [.int p0]) (rest := []) [0, 1, 2, 3, 4, 5, 6, 7, 8, 9] C (hG.kept hS.1 hS.2.1).none hP (c_X3_price hfl hs0 D cI cB cJ mA (0, mo.2.1, mo.2.2.1, mo.2.2.2.1, mo.2.2.2.2.1, mo.2.2.2.2.2.1, mo.2.2.2.2.2.2.1, mo.2.2.2.2.2.2.2.1, mo.2.2.2.2.2.2.2.2.1, mo.2.2.2.2.2.2.2.2.2.1, mo.2.2.2.2.2.2.2.2.2.2.1, mo.2.2.2.2.2.2.2.2.2.2.2) p0 h) q88 v_X3_price rfl rfl rfl rfl ⟨(Nat.le_of_ble_eq_true rfl), (Nat.le_of_ble_eq_true rfl)⟩ ⟨(Nat.le_of_ble_eq_true rfl), (Nat.le_of_ble_eq_true rfl)⟩ hl.1 rfl (lv_room (Nat.le_of_ble_eq_true rfl)) dX3_priceOf_15 (fun r15 h => ?_)
    refine lv_goto (tgt := 26) hx hb dX3_priceOf_18 (by decide) ?_
    exact zW_iret C (r15, (0, mo.2.1, mo.2.2.1, mo.2.2.2.1, mo.2.2.2.2.1, mo.2.2.2.2.2.1, mo.2.2.2.2.2.2.1, mo.2.2.2.2.2.2.2.1, mo.2.2.2.2.2.2.2.2.1, mo.2.2.2.2.2.2.2.2.2.1, mo.2.2.2.2.2.2.2.2.2.2.1, mo.2.2.2.2.2.2.2.2.2.2.2)) rfl h hP hD hS (Nat.le_of_ble_eq_true rfl) (Nat.le_of_ble_eq_true rfl) dX3_priceOf_26
def wpX3_hangsOn_b7 (post : Int32 → Prop) (mo : MS) (p0 : Int32) (p1 : Int32) : Nat → Int32 → Prop
  | 0, _ => False
  | n + 1, x3 => (x3 = (-1) → post 0) ∧ (¬ x3 = (-1) → (x3 = p1 → post 1) ∧ (¬ x3 = p1 → vp_in x3 20 ∧ (wpX3_hangsOn_b7 post mo p0 p1 n (mo.2.2.2.2.2.2.2.2.2.1 x3.toNatClampNeg))))
def wpX3_hangsOn (post : Int32 → Prop) (mo : MS) (p0 : Int32) (p1 : Int32) : Prop := vp_in p0 20 ∧ (∃ n7 : Nat, wpX3_hangsOn_b7 post mo p0 p1 n7 (mo.2.2.2.2.2.2.2.2.2.1 p0.toNatClampNeg))
set_option maxHeartbeats 4000000 in
set_option maxRecDepth 100000 in
theorem c_X3_hangsOn {l : Launch} (hfl : l.stackTraces = false) {s0 : State} (hs0 : zS s0) (D : va_G) (cI cB cJ : ClassId) (mA : Nat → Nat) (mo : MS) (p0 : Int32) (p1 : Int32) {post : Int32 → Prop} (h : wpX3_hangsOn post mo p0 p1) : zR s0 l D (zty cI cB cJ) yX3_hangsOn cX3_hangsOn 4 (some .boolean) 1 [.ref (mA 0), .int p0, .int p1] (wM cI mA mo) (fun u : Int32 => some (Value.int u)) (fun u : Int32 => post u) := by
  refine zR_intro (by decide +kernel) (Nat.le_of_ble_eq_true rfl) ?_
  intro p e s m below meth c C hP hG ls hl
  have C : zC D (zty cI cB cJ) p s m ([.ref (mA 0), .int p0, .int p1] : List Value).toArray meth c cX3_hangsOn RX3 (some .boolean) 4 := C
  have hx := C.1
  have hb := C.2.1
  have hts := C.2.2.1
  have hown := C.2.2.2.1
  have hml := C.2.2.2.2.2.1
  have hK := C.2.2.2.2.2.2.2
  have hl : lv_has ls 4 [(0, .ref (mA 0)), (1, .int p0), (2, .int p1)] := hl
  have k7 : ∀ (n : Nat) (x3 : Int32) (ls : Array Slot), lv_has ls 4 [(0, .ref (mA 0)), (2, .int p1), (3, .int x3)] → wpX3_hangsOn_b7 post mo p0 p1 n x3 → W p l e (zr 1 0 0) s m ([.ref (mA 0), .int p0, .int p1] : List Value).toArray below meth c s.heap [] 0 0 (MQ below (zQr (fun u : Int32 => some (Value.int u)) (fun u : Int32 => post u)) ([.ref (mA 0), .int p0, .int p1] : List Value).toArray s 0 0 (fun _ => False)) (F0 m 7 ls []) := by
    intro n
    induction n with
    | zero =>
      intro x3 ls hl h
      exact h.elim
    | succ n ih =>
      intro x3 ls hl h
      rw [wpX3_hangsOn_b7] at h
      refine lv_iload_n hx hb dX3_hangsOn_7 rfl (lv_at hl 2 rfl) ?_
      refine lv_iconst (v := (-1)) hx hb dX3_hangsOn_8 (by decide) ?_
      refine lv_icmp_eq (tgt := 29) hx hb dX3_hangsOn_9 (by decide) (fun c9 => ?_) (fun c9 => ?_)
      · have h := h.1 c9
        refine lv_iconst (v := 0) hx hb dX3_hangsOn_29 (by decide) ?_
        exact zR_zret C rfl 0 rfl h dX3_hangsOn_30
      · have h := h.2 c9
        refine lv_iload_n hx hb dX3_hangsOn_12 rfl (lv_at hl 2 rfl) ?_
        refine lv_iload_n hx hb dX3_hangsOn_13 rfl (lv_at hl 1 rfl) ?_
        refine lv_icmp_ne (tgt := 19) hx hb dX3_hangsOn_14 (by decide) (fun c14 => ?_) (fun c14 => ?_)
        · have h := h.2 c14
          refine lv_aload_n hx hb dX3_hangsOn_19 rfl (lv_at hl 0 rfl) ?_
          refine z_get C f_X3_28 hP (q0 := 0) rfl rfl dX3_hangsOn_20 ?_
          refine lv_iload_n hx hb dX3_hangsOn_23 rfl (lv_at hl 2 rfl) ?_
          obtain ⟨g9, h⟩ := h
          refine va_iald hx hb hK hP 7 0 rfl rfl g9 dX3_hangsOn_24 ?_
          refine lv_istore_n (lv' := [(3, .int (mo.2.2.2.2.2.2.2.2.2.1 x3.toNatClampNeg)), (0, .ref (mA 0)), (2, .int p1)]) hx hb dX3_hangsOn_25 rfl hl (by decide) rfl (fun ls hl => ?_)
          refine lv_goto (tgt := 7) hx hb dX3_hangsOn_26 (by decide) ?_
          exact ih (mo.2.2.2.2.2.2.2.2.2.1 x3.toNatClampNeg)  _ (lv_sub hl [1, 2, 0] rfl) h
        · have h := h.1 c14
          refine lv_iconst (v := 1) hx hb dX3_hangsOn_17 (by decide) ?_
          exact zR_zret C rfl 1 rfl h dX3_hangsOn_18
  unfold wpX3_hangsOn at h
  refine lv_aload_n hx hb dX3_hangsOn_0 rfl (lv_at hl 0 rfl) ?_
  refine z_get C f_X3_28 hP (q0 := 0) rfl rfl dX3_hangsOn_1 ?_
  refine lv_iload_n hx hb dX3_hangsOn_4 rfl (lv_at hl 1 rfl) ?_
  obtain ⟨g9, h⟩ := h
  refine va_iald hx hb hK hP 7 0 rfl rfl g9 dX3_hangsOn_5 ?_
  refine lv_istore_n (lv' := [(3, .int (mo.2.2.2.2.2.2.2.2.2.1 p0.toNatClampNeg)), (0, .ref (mA 0)), (1, .int p0), (2, .int p1)]) hx hb dX3_hangsOn_6 rfl hl (by decide) rfl (fun ls hl => ?_)
  obtain ⟨n9, h⟩ := h
  exact k7 n9 (mo.2.2.2.2.2.2.2.2.2.1 p0.toNatClampNeg)  _ (lv_sub hl [1, 3, 0] rfl) h
def wpX3_behind_b29 (post : Int32 → Prop) (mo : MS) (p0 : Int32) (K6 : Int32 → Int32 → Prop) (x3 : Int32) (y0 : Int32) (y1 : Int32) : Prop := K6 (y0 + y1) (x3 + 1)
def wpX3_behind_b6 (post : Int32 → Prop) (mo : MS) (p0 : Int32) : Nat → Int32 → Int32 → Prop
  | 0, _, _ => False
  | n + 1, x2, x3 => (mo.2.2.1 ≤ x3 → post x2) ∧ (¬ mo.2.2.1 ≤ x3 → wpX3_hangsOn (fun r18 => (r18 = 0 → wpX3_behind_b29 post mo p0 (fun z0 z1 => wpX3_behind_b6 post mo p0 n z0 z1) x3 x2 0) ∧ (¬ r18 = 0 → wpX3_behind_b29 post mo p0 (fun z0 z1 => wpX3_behind_b6 post mo p0 n z0 z1) x3 x2 1)) mo x3 p0)
def wpX3_behind (post : Int32 → Prop) (mo : MS) (p0 : Int32) : Prop := ∃ n6 : Nat, wpX3_behind_b6 post mo p0 n6 0 (p0 + 1)
set_option maxHeartbeats 4000000 in
set_option maxRecDepth 100000 in
theorem c_X3_behind {l : Launch} (hfl : l.stackTraces = false) {s0 : State} (hs0 : zS s0) (D : va_G) (cI cB cJ : ClassId) (mA : Nat → Nat) (mo : MS) (p0 : Int32) {post : Int32 → Prop} (h : wpX3_behind post mo p0) : zR s0 l D (zty cI cB cJ) yX3_behind cX3_behind 4 (some .int) 2 [.ref (mA 0), .int p0] (wM cI mA mo) (fun u : Int32 => some (Value.int u)) (fun u : Int32 => post u) := by
  refine zR_intro (by decide +kernel) (Nat.le_of_ble_eq_true rfl) ?_
  intro p e s m below meth c C hP hG ls hl
  have C : zC D (zty cI cB cJ) p s m ([.ref (mA 0), .int p0] : List Value).toArray meth c cX3_behind RX3 (some .int) 4 := C
  have hx := C.1
  have hb := C.2.1
  have hts := C.2.2.1
  have hown := C.2.2.2.1
  have hml := C.2.2.2.2.2.1
  have hK := C.2.2.2.2.2.2.2
  have hl : lv_has ls 4 [(0, .ref (mA 0)), (1, .int p0)] := hl
  have k29 : ∀ (K6 : Int32 → Int32 → Prop) (hK6 : ∀ (x2 : Int32) (x3 : Int32) (ls : Array Slot), lv_has ls 4 [(0, .ref (mA 0)), (1, .int p0), (2, .int x2), (3, .int x3)] → K6 x2 x3 → W p l e (zr 2 0 0) s m ([.ref (mA 0), .int p0] : List Value).toArray below meth c s.heap [] 0 0 (MQ below (zQr (fun u : Int32 => some (Value.int u)) (fun u : Int32 => post u)) ([.ref (mA 0), .int p0] : List Value).toArray s 0 0 (fun _ => False)) (F0 m 6 ls [])), ∀ (x3 : Int32) (y0 : Int32) (y1 : Int32) (ls : Array Slot), lv_has ls 4 [(0, .ref (mA 0)), (1, .int p0), (3, .int x3)] → wpX3_behind_b29 post mo p0 K6 x3 y0 y1 → W p l e (zr 2 0 0) s m ([.ref (mA 0), .int p0] : List Value).toArray below meth c s.heap [] 0 0 (MQ below (zQr (fun u : Int32 => some (Value.int u)) (fun u : Int32 => post u)) ([.ref (mA 0), .int p0] : List Value).toArray s 0 0 (fun _ => False)) (F0 m 29 ls [.int y1, .int y0]) := by
    intro K6 hK6
    intro x3 y0 y1 ls hl h
    unfold wpX3_behind_b29 at h
    refine lv_iadd hx hb dX3_behind_29 ?_
    refine lv_istore_n (lv' := [(2, .int (y0 + y1)), (0, .ref (mA 0)), (1, .int p0), (3, .int x3)]) hx hb dX3_behind_30 rfl hl (by decide) rfl (fun ls hl => ?_)
    refine lv_iinc (v := (x3 + 1)) (lv' := [(3, .int (x3 + 1)), (2, .int (y0 + y1)), (0, .ref (mA 0)), (1, .int p0)]) hx hb dX3_behind_31 hl (k := 3) rfl (by first | rfl | decide) (by decide) rfl (fun ls hl => ?_)
    refine lv_goto (tgt := 6) hx hb dX3_behind_34 (by decide) ?_
    exact hK6 (y0 + y1) (x3 + 1)  _ (lv_sub hl [2, 3, 1, 0] rfl) h
  have k6 : ∀ (n : Nat) (x2 : Int32) (x3 : Int32) (ls : Array Slot), lv_has ls 4 [(0, .ref (mA 0)), (1, .int p0), (2, .int x2), (3, .int x3)] → wpX3_behind_b6 post mo p0 n x2 x3 → W p l e (zr 2 0 0) s m ([.ref (mA 0), .int p0] : List Value).toArray below meth c s.heap [] 0 0 (MQ below (zQr (fun u : Int32 => some (Value.int u)) (fun u : Int32 => post u)) ([.ref (mA 0), .int p0] : List Value).toArray s 0 0 (fun _ => False)) (F0 m 6 ls []) := by
    intro n
    induction n with
    | zero =>
      intro x2 x3 ls hl h
      exact h.elim
    | succ n ih =>
      intro x2 x3 ls hl h
      rw [wpX3_behind_b6] at h
      refine lv_iload_n hx hb dX3_behind_6 rfl (lv_at hl 3 rfl) ?_
      refine lv_aload_n hx hb dX3_behind_7 rfl (lv_at hl 0 rfl) ?_
      refine z_get C f_X3_55 hP (q0 := 0) rfl rfl dX3_behind_8 ?_
      refine lv_icmp_ge (tgt := 37) hx hb dX3_behind_11 (by decide) (fun c11 => ?_) (fun c11 => ?_)
      · have h := h.1 c11
        refine lv_iload_n hx hb dX3_behind_37 rfl (lv_at hl 2 rfl) ?_
        exact zR_iret C x2 rfl h dX3_behind_38
      · have h := h.2 c11
        refine lv_iload_n hx hb dX3_behind_14 rfl (lv_at hl 2 rfl) ?_
        refine lv_aload_n hx hb dX3_behind_15 rfl (lv_at hl 0 rfl) ?_
        refine lv_iload_n hx hb dX3_behind_16 rfl (lv_at hl 3 rfl) ?_
        refine lv_iload_n hx hb dX3_behind_17 rfl (lv_at hl 1 rfl) ?_
        refine z_RV (As := [.int x3, .int p0]) (rest := [.int x2]) [0, 1, 2, 3, 4, 5, 6, 7, 8, 9] C hG hP (c_X3_hangsOn hfl hs0 D cI cB cJ mA mo x3 p0 h) q158 v_X3_hangsOn rfl rfl rfl rfl ⟨(Nat.le_of_ble_eq_true rfl), (Nat.le_of_ble_eq_true rfl)⟩ ⟨(Nat.le_of_ble_eq_true rfl), (Nat.le_of_ble_eq_true rfl)⟩ hl.1 rfl (lv_room (Nat.le_of_ble_eq_true rfl)) dX3_behind_18 (fun r18 h => ?_)
        refine lv_if_eq (tgt := 28) hx hb dX3_behind_21 (by decide) (fun c21 => ?_) (fun c21 => ?_)
        · have h := h.1 c21
          refine lv_iconst (v := 0) hx hb dX3_behind_28 (by decide) ?_
          exact k29 _ ih x3 x2 0  _ (lv_sub hl [0, 1, 3] rfl) h
        · have h := h.2 c21
          refine lv_iconst (v := 1) hx hb dX3_behind_24 (by decide) ?_
          refine lv_goto (tgt := 29) hx hb dX3_behind_25 (by decide) ?_
          exact k29 _ ih x3 x2 1  _ (lv_sub hl [0, 1, 3] rfl) h
  unfold wpX3_behind at h
  refine lv_iconst (v := 0) hx hb dX3_behind_0 (by decide) ?_
  refine lv_istore_n (lv' := [(2, .int 0), (0, .ref (mA 0)), (1, .int p0)]) hx hb dX3_behind_1 rfl hl (by decide) rfl (fun ls hl => ?_)
  refine lv_iload_n hx hb dX3_behind_2 rfl (lv_at hl 2 rfl) ?_
  refine lv_iconst (v := 1) hx hb dX3_behind_3 (by decide) ?_
  refine lv_iadd hx hb dX3_behind_4 ?_
  refine lv_istore_n (lv' := [(3, .int (p0 + 1)), (2, .int 0), (0, .ref (mA 0)), (1, .int p0)]) hx hb dX3_behind_5 rfl hl (by decide) rfl (fun ls hl => ?_)
  obtain ⟨n9, h⟩ := h
  exact k6 n9 0 (p0 + 1)  _ (lv_sub hl [2, 3, 1, 0] rfl) h
def wpX3_hanging (post : Int32 → MS → Prop) (mo : MS) (p0 : Int32) : Prop := wpX3_isDuty (fun r7 => (r7 = 0 → wpX3_no (fun r23 mo23 => post r23 mo23) (0, mo.2.1, mo.2.2.1, mo.2.2.2.1, mo.2.2.2.2.1, mo.2.2.2.2.2.1, mo.2.2.2.2.2.2.1, mo.2.2.2.2.2.2.2.1, mo.2.2.2.2.2.2.2.2.1, mo.2.2.2.2.2.2.2.2.2.1, mo.2.2.2.2.2.2.2.2.2.2.1, mo.2.2.2.2.2.2.2.2.2.2.2) 1) ∧ (¬ r7 = 0 → wpX3_behind (fun r15 => post r15 (0, mo.2.1, mo.2.2.1, mo.2.2.2.1, mo.2.2.2.2.1, mo.2.2.2.2.2.1, mo.2.2.2.2.2.2.1, mo.2.2.2.2.2.2.2.1, mo.2.2.2.2.2.2.2.2.1, mo.2.2.2.2.2.2.2.2.2.1, mo.2.2.2.2.2.2.2.2.2.2.1, mo.2.2.2.2.2.2.2.2.2.2.2)) (0, mo.2.1, mo.2.2.1, mo.2.2.2.1, mo.2.2.2.2.1, mo.2.2.2.2.2.1, mo.2.2.2.2.2.2.1, mo.2.2.2.2.2.2.2.1, mo.2.2.2.2.2.2.2.2.1, mo.2.2.2.2.2.2.2.2.2.1, mo.2.2.2.2.2.2.2.2.2.2.1, mo.2.2.2.2.2.2.2.2.2.2.2) p0)) (0, mo.2.1, mo.2.2.1, mo.2.2.2.1, mo.2.2.2.2.1, mo.2.2.2.2.2.1, mo.2.2.2.2.2.2.1, mo.2.2.2.2.2.2.2.1, mo.2.2.2.2.2.2.2.2.1, mo.2.2.2.2.2.2.2.2.2.1, mo.2.2.2.2.2.2.2.2.2.2.1, mo.2.2.2.2.2.2.2.2.2.2.2) p0
set_option maxHeartbeats 4000000 in
set_option maxRecDepth 100000 in
theorem c_X3_hanging {l : Launch} (hfl : l.stackTraces = false) {s0 : State} (hs0 : zS s0) (D : va_G) (cI cB cJ : ClassId) (mA : Nat → Nat) (mo : MS) (p0 : Int32) {post : Int32 → MS → Prop} (h : wpX3_hanging post mo p0) : zW s0 l D (zty cI cB cJ) yX3_hanging cX3_hanging 2 (some .int) 3 0 0 [.ref (mA 0), .int p0] (wM cI mA mo) (fun u : Int32 × MS => some (Value.int u.1)) (fun u : Int32 × MS => post u.1 u.2) (fun u : Int32 × MS => wM cI mA u.2) := by
  refine zW_intro (by decide +kernel) (Nat.le_of_ble_eq_true rfl) ?_
  intro p e s m below meth c A C hnm hA hG hP hD hS ls hl
  have C : zC D (zty cI cB cJ) p s m ([.ref (mA 0), .int p0] : List Value).toArray meth c cX3_hanging RX3 (some .int) 2 := C
  have hx := C.1
  have hb := C.2.1
  have hts := C.2.2.1
  have hown := C.2.2.2.1
  have hml := C.2.2.2.2.2.1
  have hK := C.2.2.2.2.2.2.2
  have hl : lv_has ls 2 [(0, .ref (mA 0)), (1, .int p0)] := hl
  have hP : va_P D vwCl (wM cI mA mo) s.heap := hP
  have hD : va_D A (wM cI mA mo) := hD
  unfold wpX3_hanging at h
  refine lv_aload_n hx hb dX3_hanging_0 rfl (lv_at hl 0 rfl) ?_
  refine lv_iconst (v := 0) hx hb dX3_hanging_1 (by decide) ?_
  refine z_put C f_X3_44 zt_X3 rfl rfl rfl rfl hP hD hS (q0 := 0) rfl (Nat.le_of_ble_eq_true rfl) dX3_hanging_2 (fun H locs hP hD hS => ?_)
  have hP : va_P D vwCl (wM cI mA (0, mo.2.1, mo.2.2.1, mo.2.2.2.1, mo.2.2.2.2.1, mo.2.2.2.2.2.1, mo.2.2.2.2.2.2.1, mo.2.2.2.2.2.2.2.1, mo.2.2.2.2.2.2.2.2.1, mo.2.2.2.2.2.2.2.2.2.1, mo.2.2.2.2.2.2.2.2.2.2.1, mo.2.2.2.2.2.2.2.2.2.2.2)) H := hP
  have hD : va_D A (wM cI mA (0, mo.2.1, mo.2.2.1, mo.2.2.2.1, mo.2.2.2.2.1, mo.2.2.2.2.2.1, mo.2.2.2.2.2.2.1, mo.2.2.2.2.2.2.2.1, mo.2.2.2.2.2.2.2.2.1, mo.2.2.2.2.2.2.2.2.2.1, mo.2.2.2.2.2.2.2.2.2.2.1, mo.2.2.2.2.2.2.2.2.2.2.2)) := hD
  refine lv_aload_n hx hb dX3_hanging_5 rfl (lv_at hl 0 rfl) ?_
  refine lv_iload_n hx hb dX3_hanging_6 rfl (lv_at hl 1 rfl) ?_
  refine z_RV (As := [.int p0]) (rest := []) [0, 1, 2, 3, 4, 5, 6, 7, 8, 9] C (hG.kept hS.1 hS.2.1).none hP (c_X3_isDuty hfl hs0 D cI cB cJ mA (0, mo.2.1, mo.2.2.1, mo.2.2.2.1, mo.2.2.2.2.1, mo.2.2.2.2.2.1, mo.2.2.2.2.2.2.1, mo.2.2.2.2.2.2.2.1, mo.2.2.2.2.2.2.2.2.1, mo.2.2.2.2.2.2.2.2.2.1, mo.2.2.2.2.2.2.2.2.2.2.1, mo.2.2.2.2.2.2.2.2.2.2.2) p0 h) q130 v_X3_isDuty rfl rfl rfl rfl ⟨(Nat.le_of_ble_eq_true rfl), (Nat.le_of_ble_eq_true rfl)⟩ ⟨(Nat.le_of_ble_eq_true rfl), (Nat.le_of_ble_eq_true rfl)⟩ hl.1 rfl (lv_room (Nat.le_of_ble_eq_true rfl)) dX3_hanging_7 (fun r7 h => ?_)
  refine lv_if_eq (tgt := 21) hx hb dX3_hanging_10 (by decide) (fun c10 => ?_) (fun c10 => ?_)
  · have h := h.1 c10
    refine lv_aload_n hx hb dX3_hanging_21 rfl (lv_at hl 0 rfl) ?_
    refine lv_iconst (v := 1) hx hb dX3_hanging_22 (by decide) ?_
    refine z_WV (As := [.int 1]) (rest := []) (wr := ([] : va_W)) (wN := (fun u : Int32 × MS => wM cI mA u.2)) [0, 1, 2, 3, 4, 5, 6, 7, 8, 9] [] [0, 1, 2, 3, 4, 5, 6, 7, 8, 9] C hG hA hP hD hS (c_X3_no hfl hs0 D cI cB cJ mA (0, mo.2.1, mo.2.2.1, mo.2.2.2.1, mo.2.2.2.2.1, mo.2.2.2.2.2.1, mo.2.2.2.2.2.2.1, mo.2.2.2.2.2.2.2.1, mo.2.2.2.2.2.2.2.2.1, mo.2.2.2.2.2.2.2.2.2.1, mo.2.2.2.2.2.2.2.2.2.2.1, mo.2.2.2.2.2.2.2.2.2.2.2) 1 h) q122 v_X3_no rfl rfl ⟨by decide, by decide, by decide⟩ (by decide) (fun _ => rfl) rfl rfl rfl ⟨(Nat.le_of_ble_eq_true rfl), (Nat.le_of_ble_eq_true rfl)⟩ ⟨(Nat.le_of_ble_eq_true rfl), (Nat.le_of_ble_eq_true rfl)⟩ hl.1 rfl (lv_room (Nat.le_of_ble_eq_true rfl)) dX3_hanging_23 (fun u H locs h hP hD hS => ?_)
    obtain ⟨r23, mo23⟩ := u
    have hP : va_P D vwCl (wM cI mA mo23) H := hP
    have hD : va_D A (wM cI mA mo23) := hD
    exact zW_iret C (r23, mo23) rfl h hP hD hS (Nat.le_of_ble_eq_true rfl) (Nat.le_of_ble_eq_true rfl) dX3_hanging_26
  · have h := h.2 c10
    refine lv_aload_n hx hb dX3_hanging_13 rfl (lv_at hl 0 rfl) ?_
    refine lv_iload_n hx hb dX3_hanging_14 rfl (lv_at hl 1 rfl) ?_
    refine z_RV (As := [.int p0]) (rest := []) [0, 1, 2, 3, 4, 5, 6, 7, 8, 9] C (hG.kept hS.1 hS.2.1).none hP (c_X3_behind hfl hs0 D cI cB cJ mA (0, mo.2.1, mo.2.2.1, mo.2.2.2.1, mo.2.2.2.2.1, mo.2.2.2.2.2.1, mo.2.2.2.2.2.2.1, mo.2.2.2.2.2.2.2.1, mo.2.2.2.2.2.2.2.2.1, mo.2.2.2.2.2.2.2.2.2.1, mo.2.2.2.2.2.2.2.2.2.2.1, mo.2.2.2.2.2.2.2.2.2.2.2) p0 h) q162 v_X3_behind rfl rfl rfl rfl ⟨(Nat.le_of_ble_eq_true rfl), (Nat.le_of_ble_eq_true rfl)⟩ ⟨(Nat.le_of_ble_eq_true rfl), (Nat.le_of_ble_eq_true rfl)⟩ hl.1 rfl (lv_room (Nat.le_of_ble_eq_true rfl)) dX3_hanging_15 (fun r15 h => ?_)
    refine lv_goto (tgt := 26) hx hb dX3_hanging_18 (by decide) ?_
    exact zW_iret C (r15, (0, mo.2.1, mo.2.2.1, mo.2.2.2.1, mo.2.2.2.2.1, mo.2.2.2.2.2.1, mo.2.2.2.2.2.2.1, mo.2.2.2.2.2.2.2.1, mo.2.2.2.2.2.2.2.2.1, mo.2.2.2.2.2.2.2.2.2.1, mo.2.2.2.2.2.2.2.2.2.2.1, mo.2.2.2.2.2.2.2.2.2.2.2)) rfl h hP hD hS (Nat.le_of_ble_eq_true rfl) (Nat.le_of_ble_eq_true rfl) dX3_hanging_26
def wpX3_depth_b9 (post : Int32 → Prop) (mo : MS) (p0 : Int32) : Nat → Int32 → Int32 → Prop
  | 0, _, _ => False
  | n + 1, x2, x3 => (x3 = (-1) → post x2) ∧ (¬ x3 = (-1) → vp_in x3 20 ∧ (wpX3_depth_b9 post mo p0 n (x2 + 1) (mo.2.2.2.2.2.2.2.2.2.1 x3.toNatClampNeg)))
def wpX3_depth (post : Int32 → Prop) (mo : MS) (p0 : Int32) : Prop := vp_in p0 20 ∧ (∃ n9 : Nat, wpX3_depth_b9 post mo p0 n9 0 (mo.2.2.2.2.2.2.2.2.2.1 p0.toNatClampNeg))
set_option maxHeartbeats 4000000 in
set_option maxRecDepth 100000 in
theorem c_X3_depth {l : Launch} (hfl : l.stackTraces = false) {s0 : State} (hs0 : zS s0) (D : va_G) (cI cB cJ : ClassId) (mA : Nat → Nat) (mo : MS) (p0 : Int32) {post : Int32 → Prop} (h : wpX3_depth post mo p0) : zR s0 l D (zty cI cB cJ) yX3_depth cX3_depth 4 (some .int) 1 [.ref (mA 0), .int p0] (wM cI mA mo) (fun u : Int32 => some (Value.int u)) (fun u : Int32 => post u) := by
  refine zR_intro (by decide +kernel) (Nat.le_of_ble_eq_true rfl) ?_
  intro p e s m below meth c C hP hG ls hl
  have C : zC D (zty cI cB cJ) p s m ([.ref (mA 0), .int p0] : List Value).toArray meth c cX3_depth RX3 (some .int) 4 := C
  have hx := C.1
  have hb := C.2.1
  have hts := C.2.2.1
  have hown := C.2.2.2.1
  have hml := C.2.2.2.2.2.1
  have hK := C.2.2.2.2.2.2.2
  have hl : lv_has ls 4 [(0, .ref (mA 0)), (1, .int p0)] := hl
  have k9 : ∀ (n : Nat) (x2 : Int32) (x3 : Int32) (ls : Array Slot), lv_has ls 4 [(0, .ref (mA 0)), (2, .int x2), (3, .int x3)] → wpX3_depth_b9 post mo p0 n x2 x3 → W p l e (zr 1 0 0) s m ([.ref (mA 0), .int p0] : List Value).toArray below meth c s.heap [] 0 0 (MQ below (zQr (fun u : Int32 => some (Value.int u)) (fun u : Int32 => post u)) ([.ref (mA 0), .int p0] : List Value).toArray s 0 0 (fun _ => False)) (F0 m 9 ls []) := by
    intro n
    induction n with
    | zero =>
      intro x2 x3 ls hl h
      exact h.elim
    | succ n ih =>
      intro x2 x3 ls hl h
      rw [wpX3_depth_b9] at h
      refine lv_iload_n hx hb dX3_depth_9 rfl (lv_at hl 2 rfl) ?_
      refine lv_iconst (v := (-1)) hx hb dX3_depth_10 (by decide) ?_
      refine lv_icmp_eq (tgt := 27) hx hb dX3_depth_11 (by decide) (fun c11 => ?_) (fun c11 => ?_)
      · have h := h.1 c11
        refine lv_iload_n hx hb dX3_depth_27 rfl (lv_at hl 1 rfl) ?_
        exact zR_iret C x2 rfl h dX3_depth_28
      · have h := h.2 c11
        refine lv_iinc (v := (x2 + 1)) (lv' := [(2, .int (x2 + 1)), (0, .ref (mA 0)), (3, .int x3)]) hx hb dX3_depth_14 hl (k := 1) rfl (by first | rfl | decide) (by decide) rfl (fun ls hl => ?_)
        refine lv_aload_n hx hb dX3_depth_17 rfl (lv_at hl 1 rfl) ?_
        refine z_get C f_X3_28 hP (q0 := 0) rfl rfl dX3_depth_18 ?_
        refine lv_iload_n hx hb dX3_depth_21 rfl (lv_at hl 2 rfl) ?_
        obtain ⟨g9, h⟩ := h
        refine va_iald hx hb hK hP 7 0 rfl rfl g9 dX3_depth_22 ?_
        refine lv_istore_n (lv' := [(3, .int (mo.2.2.2.2.2.2.2.2.2.1 x3.toNatClampNeg)), (2, .int (x2 + 1)), (0, .ref (mA 0))]) hx hb dX3_depth_23 rfl hl (by decide) rfl (fun ls hl => ?_)
        refine lv_goto (tgt := 9) hx hb dX3_depth_24 (by decide) ?_
        exact ih (x2 + 1) (mo.2.2.2.2.2.2.2.2.2.1 x3.toNatClampNeg)  _ (lv_sub hl [2, 1, 0] rfl) h
  unfold wpX3_depth at h
  refine lv_iconst (v := 0) hx hb dX3_depth_0 (by decide) ?_
  refine lv_istore_n (lv' := [(2, .int 0), (0, .ref (mA 0)), (1, .int p0)]) hx hb dX3_depth_1 rfl hl (by decide) rfl (fun ls hl => ?_)
  refine lv_aload_n hx hb dX3_depth_2 rfl (lv_at hl 1 rfl) ?_
  refine z_get C f_X3_28 hP (q0 := 0) rfl rfl dX3_depth_3 ?_
  refine lv_iload_n hx hb dX3_depth_6 rfl (lv_at hl 2 rfl) ?_
  obtain ⟨g9, h⟩ := h
  refine va_iald hx hb hK hP 7 0 rfl rfl g9 dX3_depth_7 ?_
  refine lv_istore_n (lv' := [(3, .int (mo.2.2.2.2.2.2.2.2.2.1 p0.toNatClampNeg)), (2, .int 0), (0, .ref (mA 0)), (1, .int p0)]) hx hb dX3_depth_8 rfl hl (by decide) rfl (fun ls hl => ?_)
  obtain ⟨n9, h⟩ := h
  exact k9 n9 0 (mo.2.2.2.2.2.2.2.2.2.1 p0.toNatClampNeg)  _ (lv_sub hl [2, 1, 0] rfl) h
def wpX3_depthOf (post : Int32 → MS → Prop) (mo : MS) (p0 : Int32) : Prop := wpX3_isDuty (fun r7 => (r7 = 0 → wpX3_no (fun r23 mo23 => post r23 mo23) (0, mo.2.1, mo.2.2.1, mo.2.2.2.1, mo.2.2.2.2.1, mo.2.2.2.2.2.1, mo.2.2.2.2.2.2.1, mo.2.2.2.2.2.2.2.1, mo.2.2.2.2.2.2.2.2.1, mo.2.2.2.2.2.2.2.2.2.1, mo.2.2.2.2.2.2.2.2.2.2.1, mo.2.2.2.2.2.2.2.2.2.2.2) 1) ∧ (¬ r7 = 0 → wpX3_depth (fun r15 => post r15 (0, mo.2.1, mo.2.2.1, mo.2.2.2.1, mo.2.2.2.2.1, mo.2.2.2.2.2.1, mo.2.2.2.2.2.2.1, mo.2.2.2.2.2.2.2.1, mo.2.2.2.2.2.2.2.2.1, mo.2.2.2.2.2.2.2.2.2.1, mo.2.2.2.2.2.2.2.2.2.2.1, mo.2.2.2.2.2.2.2.2.2.2.2)) (0, mo.2.1, mo.2.2.1, mo.2.2.2.1, mo.2.2.2.2.1, mo.2.2.2.2.2.1, mo.2.2.2.2.2.2.1, mo.2.2.2.2.2.2.2.1, mo.2.2.2.2.2.2.2.2.1, mo.2.2.2.2.2.2.2.2.2.1, mo.2.2.2.2.2.2.2.2.2.2.1, mo.2.2.2.2.2.2.2.2.2.2.2) p0)) (0, mo.2.1, mo.2.2.1, mo.2.2.2.1, mo.2.2.2.2.1, mo.2.2.2.2.2.1, mo.2.2.2.2.2.2.1, mo.2.2.2.2.2.2.2.1, mo.2.2.2.2.2.2.2.2.1, mo.2.2.2.2.2.2.2.2.2.1, mo.2.2.2.2.2.2.2.2.2.2.1, mo.2.2.2.2.2.2.2.2.2.2.2) p0
set_option maxHeartbeats 4000000 in
set_option maxRecDepth 100000 in
theorem c_X3_depthOf {l : Launch} (hfl : l.stackTraces = false) {s0 : State} (hs0 : zS s0) (D : va_G) (cI cB cJ : ClassId) (mA : Nat → Nat) (mo : MS) (p0 : Int32) {post : Int32 → MS → Prop} (h : wpX3_depthOf post mo p0) : zW s0 l D (zty cI cB cJ) yX3_depthOf cX3_depthOf 2 (some .int) 3 0 0 [.ref (mA 0), .int p0] (wM cI mA mo) (fun u : Int32 × MS => some (Value.int u.1)) (fun u : Int32 × MS => post u.1 u.2) (fun u : Int32 × MS => wM cI mA u.2) := by
  refine zW_intro (by decide +kernel) (Nat.le_of_ble_eq_true rfl) ?_
  intro p e s m below meth c A C hnm hA hG hP hD hS ls hl
  have C : zC D (zty cI cB cJ) p s m ([.ref (mA 0), .int p0] : List Value).toArray meth c cX3_depthOf RX3 (some .int) 2 := C
  have hx := C.1
  have hb := C.2.1
  have hts := C.2.2.1
  have hown := C.2.2.2.1
  have hml := C.2.2.2.2.2.1
  have hK := C.2.2.2.2.2.2.2
  have hl : lv_has ls 2 [(0, .ref (mA 0)), (1, .int p0)] := hl
  have hP : va_P D vwCl (wM cI mA mo) s.heap := hP
  have hD : va_D A (wM cI mA mo) := hD
  unfold wpX3_depthOf at h
  refine lv_aload_n hx hb dX3_depthOf_0 rfl (lv_at hl 0 rfl) ?_
  refine lv_iconst (v := 0) hx hb dX3_depthOf_1 (by decide) ?_
  refine z_put C f_X3_44 zt_X3 rfl rfl rfl rfl hP hD hS (q0 := 0) rfl (Nat.le_of_ble_eq_true rfl) dX3_depthOf_2 (fun H locs hP hD hS => ?_)
  have hP : va_P D vwCl (wM cI mA (0, mo.2.1, mo.2.2.1, mo.2.2.2.1, mo.2.2.2.2.1, mo.2.2.2.2.2.1, mo.2.2.2.2.2.2.1, mo.2.2.2.2.2.2.2.1, mo.2.2.2.2.2.2.2.2.1, mo.2.2.2.2.2.2.2.2.2.1, mo.2.2.2.2.2.2.2.2.2.2.1, mo.2.2.2.2.2.2.2.2.2.2.2)) H := hP
  have hD : va_D A (wM cI mA (0, mo.2.1, mo.2.2.1, mo.2.2.2.1, mo.2.2.2.2.1, mo.2.2.2.2.2.1, mo.2.2.2.2.2.2.1, mo.2.2.2.2.2.2.2.1, mo.2.2.2.2.2.2.2.2.1, mo.2.2.2.2.2.2.2.2.2.1, mo.2.2.2.2.2.2.2.2.2.2.1, mo.2.2.2.2.2.2.2.2.2.2.2)) := hD
  refine lv_aload_n hx hb dX3_depthOf_5 rfl (lv_at hl 0 rfl) ?_
  refine lv_iload_n hx hb dX3_depthOf_6 rfl (lv_at hl 1 rfl) ?_
  refine z_RV (As := [.int p0]) (rest := []) [0, 1, 2, 3, 4, 5, 6, 7, 8, 9] C (hG.kept hS.1 hS.2.1).none hP (c_X3_isDuty hfl hs0 D cI cB cJ mA (0, mo.2.1, mo.2.2.1, mo.2.2.2.1, mo.2.2.2.2.1, mo.2.2.2.2.2.1, mo.2.2.2.2.2.2.1, mo.2.2.2.2.2.2.2.1, mo.2.2.2.2.2.2.2.2.1, mo.2.2.2.2.2.2.2.2.2.1, mo.2.2.2.2.2.2.2.2.2.2.1, mo.2.2.2.2.2.2.2.2.2.2.2) p0 h) q130 v_X3_isDuty rfl rfl rfl rfl ⟨(Nat.le_of_ble_eq_true rfl), (Nat.le_of_ble_eq_true rfl)⟩ ⟨(Nat.le_of_ble_eq_true rfl), (Nat.le_of_ble_eq_true rfl)⟩ hl.1 rfl (lv_room (Nat.le_of_ble_eq_true rfl)) dX3_depthOf_7 (fun r7 h => ?_)
  refine lv_if_eq (tgt := 21) hx hb dX3_depthOf_10 (by decide) (fun c10 => ?_) (fun c10 => ?_)
  · have h := h.1 c10
    refine lv_aload_n hx hb dX3_depthOf_21 rfl (lv_at hl 0 rfl) ?_
    refine lv_iconst (v := 1) hx hb dX3_depthOf_22 (by decide) ?_
    refine z_WV (As := [.int 1]) (rest := []) (wr := ([] : va_W)) (wN := (fun u : Int32 × MS => wM cI mA u.2)) [0, 1, 2, 3, 4, 5, 6, 7, 8, 9] [] [0, 1, 2, 3, 4, 5, 6, 7, 8, 9] C hG hA hP hD hS (c_X3_no hfl hs0 D cI cB cJ mA (0, mo.2.1, mo.2.2.1, mo.2.2.2.1, mo.2.2.2.2.1, mo.2.2.2.2.2.1, mo.2.2.2.2.2.2.1, mo.2.2.2.2.2.2.2.1, mo.2.2.2.2.2.2.2.2.1, mo.2.2.2.2.2.2.2.2.2.1, mo.2.2.2.2.2.2.2.2.2.2.1, mo.2.2.2.2.2.2.2.2.2.2.2) 1 h) q122 v_X3_no rfl rfl ⟨by decide, by decide, by decide⟩ (by decide) (fun _ => rfl) rfl rfl rfl ⟨(Nat.le_of_ble_eq_true rfl), (Nat.le_of_ble_eq_true rfl)⟩ ⟨(Nat.le_of_ble_eq_true rfl), (Nat.le_of_ble_eq_true rfl)⟩ hl.1 rfl (lv_room (Nat.le_of_ble_eq_true rfl)) dX3_depthOf_23 (fun u H locs h hP hD hS => ?_)
    obtain ⟨r23, mo23⟩ := u
    have hP : va_P D vwCl (wM cI mA mo23) H := hP
    have hD : va_D A (wM cI mA mo23) := hD
    exact zW_iret C (r23, mo23) rfl h hP hD hS (Nat.le_of_ble_eq_true rfl) (Nat.le_of_ble_eq_true rfl) dX3_depthOf_26
  · have h := h.2 c10
    refine lv_aload_n hx hb dX3_depthOf_13 rfl (lv_at hl 0 rfl) ?_
    refine lv_iload_n hx hb dX3_depthOf_14 rfl (lv_at hl 1 rfl) ?_
    refine z_RV (As := [.int p0]) (rest := []) [0, 1, 2, 3, 4, 5, 6, 7, 8, 9] C (hG.kept hS.1 hS.2.1).none hP (c_X3_depth hfl hs0 D cI cB cJ mA (0, mo.2.1, mo.2.2.1, mo.2.2.2.1, mo.2.2.2.2.1, mo.2.2.2.2.2.1, mo.2.2.2.2.2.2.1, mo.2.2.2.2.2.2.2.1, mo.2.2.2.2.2.2.2.2.1, mo.2.2.2.2.2.2.2.2.2.1, mo.2.2.2.2.2.2.2.2.2.2.1, mo.2.2.2.2.2.2.2.2.2.2.2) p0 h) q166 v_X3_depth rfl rfl rfl rfl ⟨(Nat.le_of_ble_eq_true rfl), (Nat.le_of_ble_eq_true rfl)⟩ ⟨(Nat.le_of_ble_eq_true rfl), (Nat.le_of_ble_eq_true rfl)⟩ hl.1 rfl (lv_room (Nat.le_of_ble_eq_true rfl)) dX3_depthOf_15 (fun r15 h => ?_)
    refine lv_goto (tgt := 26) hx hb dX3_depthOf_18 (by decide) ?_
    exact zW_iret C (r15, (0, mo.2.1, mo.2.2.1, mo.2.2.2.1, mo.2.2.2.2.1, mo.2.2.2.2.2.1, mo.2.2.2.2.2.2.1, mo.2.2.2.2.2.2.2.1, mo.2.2.2.2.2.2.2.2.1, mo.2.2.2.2.2.2.2.2.2.1, mo.2.2.2.2.2.2.2.2.2.2.1, mo.2.2.2.2.2.2.2.2.2.2.2)) rfl h hP hD hS (Nat.le_of_ble_eq_true rfl) (Nat.le_of_ble_eq_true rfl) dX3_depthOf_26
def wpX3_owed_b32 (post : Int32 → Prop) (mo : MS) (p0 : Int32) (K4 : Int32 → Int32 → Prop) (x3 : Int32) (y0 : Int32) (y1 : Int32) : Prop := K4 (y0 + y1) (x3 + 1)
def wpX3_owed_b4 (post : Int32 → Prop) (mo : MS) (p0 : Int32) : Nat → Int32 → Int32 → Prop
  | 0, _, _ => False
  | n + 1, x2, x3 => (mo.2.2.1 ≤ x3 → post x2) ∧ (¬ mo.2.2.1 ≤ x3 → vp_in x3 20 ∧ (((mo.2.2.2.1 x3.toNatClampNeg) = p0 → wpX3_price (fun r25 => wpX3_owed_b32 post mo p0 (fun z0 z1 => wpX3_owed_b4 post mo p0 n z0 z1) x3 x2 r25) mo x3) ∧ (¬ (mo.2.2.2.1 x3.toNatClampNeg) = p0 → wpX3_owed_b32 post mo p0 (fun z0 z1 => wpX3_owed_b4 post mo p0 n z0 z1) x3 x2 0)))
def wpX3_owed (post : Int32 → Prop) (mo : MS) (p0 : Int32) : Prop := ∃ n4 : Nat, wpX3_owed_b4 post mo p0 n4 0 0
set_option maxHeartbeats 4000000 in
set_option maxRecDepth 100000 in
theorem c_X3_owed {l : Launch} (hfl : l.stackTraces = false) {s0 : State} (hs0 : zS s0) (D : va_G) (cI cB cJ : ClassId) (mA : Nat → Nat) (mo : MS) (p0 : Int32) {post : Int32 → Prop} (h : wpX3_owed post mo p0) : zR s0 l D (zty cI cB cJ) yX3_owed cX3_owed 4 (some .int) 3 [.ref (mA 0), .int p0] (wM cI mA mo) (fun u : Int32 => some (Value.int u)) (fun u : Int32 => post u) := by
  refine zR_intro (by decide +kernel) (Nat.le_of_ble_eq_true rfl) ?_
  intro p e s m below meth c C hP hG ls hl
  have C : zC D (zty cI cB cJ) p s m ([.ref (mA 0), .int p0] : List Value).toArray meth c cX3_owed RX3 (some .int) 4 := C
  have hx := C.1
  have hb := C.2.1
  have hts := C.2.2.1
  have hown := C.2.2.2.1
  have hml := C.2.2.2.2.2.1
  have hK := C.2.2.2.2.2.2.2
  have hl : lv_has ls 4 [(0, .ref (mA 0)), (1, .int p0)] := hl
  have k32 : ∀ (K4 : Int32 → Int32 → Prop) (hK4 : ∀ (x2 : Int32) (x3 : Int32) (ls : Array Slot), lv_has ls 4 [(0, .ref (mA 0)), (1, .int p0), (2, .int x2), (3, .int x3)] → K4 x2 x3 → W p l e (zr 3 0 0) s m ([.ref (mA 0), .int p0] : List Value).toArray below meth c s.heap [] 0 0 (MQ below (zQr (fun u : Int32 => some (Value.int u)) (fun u : Int32 => post u)) ([.ref (mA 0), .int p0] : List Value).toArray s 0 0 (fun _ => False)) (F0 m 4 ls [])), ∀ (x3 : Int32) (y0 : Int32) (y1 : Int32) (ls : Array Slot), lv_has ls 4 [(0, .ref (mA 0)), (1, .int p0), (3, .int x3)] → wpX3_owed_b32 post mo p0 K4 x3 y0 y1 → W p l e (zr 3 0 0) s m ([.ref (mA 0), .int p0] : List Value).toArray below meth c s.heap [] 0 0 (MQ below (zQr (fun u : Int32 => some (Value.int u)) (fun u : Int32 => post u)) ([.ref (mA 0), .int p0] : List Value).toArray s 0 0 (fun _ => False)) (F0 m 32 ls [.int y1, .int y0]) := by
    intro K4 hK4
    intro x3 y0 y1 ls hl h
    unfold wpX3_owed_b32 at h
    refine lv_iadd hx hb dX3_owed_32 ?_
    refine lv_istore_n (lv' := [(2, .int (y0 + y1)), (0, .ref (mA 0)), (1, .int p0), (3, .int x3)]) hx hb dX3_owed_33 rfl hl (by decide) rfl (fun ls hl => ?_)
    refine lv_iinc (v := (x3 + 1)) (lv' := [(3, .int (x3 + 1)), (2, .int (y0 + y1)), (0, .ref (mA 0)), (1, .int p0)]) hx hb dX3_owed_34 hl (k := 3) rfl (by first | rfl | decide) (by decide) rfl (fun ls hl => ?_)
    refine lv_goto (tgt := 4) hx hb dX3_owed_37 (by decide) ?_
    exact hK4 (y0 + y1) (x3 + 1)  _ (lv_sub hl [2, 3, 1, 0] rfl) h
  have k4 : ∀ (n : Nat) (x2 : Int32) (x3 : Int32) (ls : Array Slot), lv_has ls 4 [(0, .ref (mA 0)), (1, .int p0), (2, .int x2), (3, .int x3)] → wpX3_owed_b4 post mo p0 n x2 x3 → W p l e (zr 3 0 0) s m ([.ref (mA 0), .int p0] : List Value).toArray below meth c s.heap [] 0 0 (MQ below (zQr (fun u : Int32 => some (Value.int u)) (fun u : Int32 => post u)) ([.ref (mA 0), .int p0] : List Value).toArray s 0 0 (fun _ => False)) (F0 m 4 ls []) := by
    intro n
    induction n with
    | zero =>
      intro x2 x3 ls hl h
      exact h.elim
    | succ n ih =>
      intro x2 x3 ls hl h
      rw [wpX3_owed_b4] at h
      refine lv_iload_n hx hb dX3_owed_4 rfl (lv_at hl 3 rfl) ?_
      refine lv_aload_n hx hb dX3_owed_5 rfl (lv_at hl 0 rfl) ?_
      refine z_get C f_X3_55 hP (q0 := 0) rfl rfl dX3_owed_6 ?_
      refine lv_icmp_ge (tgt := 40) hx hb dX3_owed_9 (by decide) (fun c9 => ?_) (fun c9 => ?_)
      · have h := h.1 c9
        refine lv_iload_n hx hb dX3_owed_40 rfl (lv_at hl 2 rfl) ?_
        exact zR_iret C x2 rfl h dX3_owed_41
      · have h := h.2 c9
        refine lv_iload_n hx hb dX3_owed_12 rfl (lv_at hl 2 rfl) ?_
        refine lv_aload_n hx hb dX3_owed_13 rfl (lv_at hl 0 rfl) ?_
        refine z_get C f_X3_9 hP (q0 := 0) rfl rfl dX3_owed_14 ?_
        refine lv_iload_n hx hb dX3_owed_17 rfl (lv_at hl 3 rfl) ?_
        obtain ⟨g9, h⟩ := h
        refine va_iald hx hb hK hP 1 0 rfl rfl g9 dX3_owed_18 ?_
        refine lv_iload_n hx hb dX3_owed_19 rfl (lv_at hl 1 rfl) ?_
        refine lv_icmp_ne (tgt := 31) hx hb dX3_owed_20 (by decide) (fun c20 => ?_) (fun c20 => ?_)
        · have h := h.2 c20
          refine lv_iconst (v := 0) hx hb dX3_owed_31 (by decide) ?_
          exact k32 _ ih x3 x2 0  _ (lv_sub hl [0, 1, 3] rfl) h
        · have h := h.1 c20
          refine lv_aload_n hx hb dX3_owed_23 rfl (lv_at hl 0 rfl) ?_
          refine lv_iload_n hx hb dX3_owed_24 rfl (lv_at hl 3 rfl) ?_
          refine z_RV (As := [.int x3]) (rest := [.int x2]) [0, 1, 2, 3, 4, 5, 6, 7, 8, 9] C hG hP (c_X3_price hfl hs0 D cI cB cJ mA mo x3 h) q88 v_X3_price rfl rfl rfl rfl ⟨(Nat.le_of_ble_eq_true rfl), (Nat.le_of_ble_eq_true rfl)⟩ ⟨(Nat.le_of_ble_eq_true rfl), (Nat.le_of_ble_eq_true rfl)⟩ hl.1 rfl (lv_room (Nat.le_of_ble_eq_true rfl)) dX3_owed_25 (fun r25 h => ?_)
          refine lv_goto (tgt := 32) hx hb dX3_owed_28 (by decide) ?_
          exact k32 _ ih x3 x2 r25  _ (lv_sub hl [0, 1, 3] rfl) h
  unfold wpX3_owed at h
  refine lv_iconst (v := 0) hx hb dX3_owed_0 (by decide) ?_
  refine lv_istore_n (lv' := [(2, .int 0), (0, .ref (mA 0)), (1, .int p0)]) hx hb dX3_owed_1 rfl hl (by decide) rfl (fun ls hl => ?_)
  refine lv_iconst (v := 0) hx hb dX3_owed_2 (by decide) ?_
  refine lv_istore_n (lv' := [(3, .int 0), (2, .int 0), (0, .ref (mA 0)), (1, .int p0)]) hx hb dX3_owed_3 rfl hl (by decide) rfl (fun ls hl => ?_)
  obtain ⟨n9, h⟩ := h
  exact k4 n9 0 0  _ (lv_sub hl [2, 3, 1, 0] rfl) h
def wpX3_owes (post : Int32 → MS → Prop) (mo : MS) (p0 : Int32) : Prop := wpX3_isParty (fun r7 => (r7 = 0 → wpX3_no (fun r23 mo23 => post r23 mo23) (0, mo.2.1, mo.2.2.1, mo.2.2.2.1, mo.2.2.2.2.1, mo.2.2.2.2.2.1, mo.2.2.2.2.2.2.1, mo.2.2.2.2.2.2.2.1, mo.2.2.2.2.2.2.2.2.1, mo.2.2.2.2.2.2.2.2.2.1, mo.2.2.2.2.2.2.2.2.2.2.1, mo.2.2.2.2.2.2.2.2.2.2.2) 1) ∧ (¬ r7 = 0 → wpX3_owed (fun r15 => post r15 (0, mo.2.1, mo.2.2.1, mo.2.2.2.1, mo.2.2.2.2.1, mo.2.2.2.2.2.1, mo.2.2.2.2.2.2.1, mo.2.2.2.2.2.2.2.1, mo.2.2.2.2.2.2.2.2.1, mo.2.2.2.2.2.2.2.2.2.1, mo.2.2.2.2.2.2.2.2.2.2.1, mo.2.2.2.2.2.2.2.2.2.2.2)) (0, mo.2.1, mo.2.2.1, mo.2.2.2.1, mo.2.2.2.2.1, mo.2.2.2.2.2.1, mo.2.2.2.2.2.2.1, mo.2.2.2.2.2.2.2.1, mo.2.2.2.2.2.2.2.2.1, mo.2.2.2.2.2.2.2.2.2.1, mo.2.2.2.2.2.2.2.2.2.2.1, mo.2.2.2.2.2.2.2.2.2.2.2) p0)) (0, mo.2.1, mo.2.2.1, mo.2.2.2.1, mo.2.2.2.2.1, mo.2.2.2.2.2.1, mo.2.2.2.2.2.2.1, mo.2.2.2.2.2.2.2.1, mo.2.2.2.2.2.2.2.2.1, mo.2.2.2.2.2.2.2.2.2.1, mo.2.2.2.2.2.2.2.2.2.2.1, mo.2.2.2.2.2.2.2.2.2.2.2) p0
set_option maxHeartbeats 4000000 in
set_option maxRecDepth 100000 in
theorem c_X3_owes {l : Launch} (hfl : l.stackTraces = false) {s0 : State} (hs0 : zS s0) (D : va_G) (cI cB cJ : ClassId) (mA : Nat → Nat) (mo : MS) (p0 : Int32) {post : Int32 → MS → Prop} (h : wpX3_owes post mo p0) : zW s0 l D (zty cI cB cJ) yX3_owes cX3_owes 2 (some .int) 4 0 0 [.ref (mA 0), .int p0] (wM cI mA mo) (fun u : Int32 × MS => some (Value.int u.1)) (fun u : Int32 × MS => post u.1 u.2) (fun u : Int32 × MS => wM cI mA u.2) := by
  refine zW_intro (by decide +kernel) (Nat.le_of_ble_eq_true rfl) ?_
  intro p e s m below meth c A C hnm hA hG hP hD hS ls hl
  have C : zC D (zty cI cB cJ) p s m ([.ref (mA 0), .int p0] : List Value).toArray meth c cX3_owes RX3 (some .int) 2 := C
  have hx := C.1
  have hb := C.2.1
  have hts := C.2.2.1
  have hown := C.2.2.2.1
  have hml := C.2.2.2.2.2.1
  have hK := C.2.2.2.2.2.2.2
  have hl : lv_has ls 2 [(0, .ref (mA 0)), (1, .int p0)] := hl
  have hP : va_P D vwCl (wM cI mA mo) s.heap := hP
  have hD : va_D A (wM cI mA mo) := hD
  unfold wpX3_owes at h
  refine lv_aload_n hx hb dX3_owes_0 rfl (lv_at hl 0 rfl) ?_
  refine lv_iconst (v := 0) hx hb dX3_owes_1 (by decide) ?_
  refine z_put C f_X3_44 zt_X3 rfl rfl rfl rfl hP hD hS (q0 := 0) rfl (Nat.le_of_ble_eq_true rfl) dX3_owes_2 (fun H locs hP hD hS => ?_)
  have hP : va_P D vwCl (wM cI mA (0, mo.2.1, mo.2.2.1, mo.2.2.2.1, mo.2.2.2.2.1, mo.2.2.2.2.2.1, mo.2.2.2.2.2.2.1, mo.2.2.2.2.2.2.2.1, mo.2.2.2.2.2.2.2.2.1, mo.2.2.2.2.2.2.2.2.2.1, mo.2.2.2.2.2.2.2.2.2.2.1, mo.2.2.2.2.2.2.2.2.2.2.2)) H := hP
  have hD : va_D A (wM cI mA (0, mo.2.1, mo.2.2.1, mo.2.2.2.1, mo.2.2.2.2.1, mo.2.2.2.2.2.1, mo.2.2.2.2.2.2.1, mo.2.2.2.2.2.2.2.1, mo.2.2.2.2.2.2.2.2.1, mo.2.2.2.2.2.2.2.2.2.1, mo.2.2.2.2.2.2.2.2.2.2.1, mo.2.2.2.2.2.2.2.2.2.2.2)) := hD
  refine lv_aload_n hx hb dX3_owes_5 rfl (lv_at hl 0 rfl) ?_
  refine lv_iload_n hx hb dX3_owes_6 rfl (lv_at hl 1 rfl) ?_
  refine z_RV (As := [.int p0]) (rest := []) [0, 1, 2, 3, 4, 5, 6, 7, 8, 9] C (hG.kept hS.1 hS.2.1).none hP (c_X3_isParty hfl hs0 D cI cB cJ mA (0, mo.2.1, mo.2.2.1, mo.2.2.2.1, mo.2.2.2.2.1, mo.2.2.2.2.2.1, mo.2.2.2.2.2.2.1, mo.2.2.2.2.2.2.2.1, mo.2.2.2.2.2.2.2.2.1, mo.2.2.2.2.2.2.2.2.2.1, mo.2.2.2.2.2.2.2.2.2.2.1, mo.2.2.2.2.2.2.2.2.2.2.2) p0 h) q126 v_X3_isParty rfl rfl rfl rfl ⟨(Nat.le_of_ble_eq_true rfl), (Nat.le_of_ble_eq_true rfl)⟩ ⟨(Nat.le_of_ble_eq_true rfl), (Nat.le_of_ble_eq_true rfl)⟩ hl.1 rfl (lv_room (Nat.le_of_ble_eq_true rfl)) dX3_owes_7 (fun r7 h => ?_)
  refine lv_if_eq (tgt := 21) hx hb dX3_owes_10 (by decide) (fun c10 => ?_) (fun c10 => ?_)
  · have h := h.1 c10
    refine lv_aload_n hx hb dX3_owes_21 rfl (lv_at hl 0 rfl) ?_
    refine lv_iconst (v := 1) hx hb dX3_owes_22 (by decide) ?_
    refine z_WV (As := [.int 1]) (rest := []) (wr := ([] : va_W)) (wN := (fun u : Int32 × MS => wM cI mA u.2)) [0, 1, 2, 3, 4, 5, 6, 7, 8, 9] [] [0, 1, 2, 3, 4, 5, 6, 7, 8, 9] C hG hA hP hD hS (c_X3_no hfl hs0 D cI cB cJ mA (0, mo.2.1, mo.2.2.1, mo.2.2.2.1, mo.2.2.2.2.1, mo.2.2.2.2.2.1, mo.2.2.2.2.2.2.1, mo.2.2.2.2.2.2.2.1, mo.2.2.2.2.2.2.2.2.1, mo.2.2.2.2.2.2.2.2.2.1, mo.2.2.2.2.2.2.2.2.2.2.1, mo.2.2.2.2.2.2.2.2.2.2.2) 1 h) q122 v_X3_no rfl rfl ⟨by decide, by decide, by decide⟩ (by decide) (fun _ => rfl) rfl rfl rfl ⟨(Nat.le_of_ble_eq_true rfl), (Nat.le_of_ble_eq_true rfl)⟩ ⟨(Nat.le_of_ble_eq_true rfl), (Nat.le_of_ble_eq_true rfl)⟩ hl.1 rfl (lv_room (Nat.le_of_ble_eq_true rfl)) dX3_owes_23 (fun u H locs h hP hD hS => ?_)
    obtain ⟨r23, mo23⟩ := u
    have hP : va_P D vwCl (wM cI mA mo23) H := hP
    have hD : va_D A (wM cI mA mo23) := hD
    exact zW_iret C (r23, mo23) rfl h hP hD hS (Nat.le_of_ble_eq_true rfl) (Nat.le_of_ble_eq_true rfl) dX3_owes_26
  · have h := h.2 c10
    refine lv_aload_n hx hb dX3_owes_13 rfl (lv_at hl 0 rfl) ?_
    refine lv_iload_n hx hb dX3_owes_14 rfl (lv_at hl 1 rfl) ?_
    refine z_RV (As := [.int p0]) (rest := []) [0, 1, 2, 3, 4, 5, 6, 7, 8, 9] C (hG.kept hS.1 hS.2.1).none hP (c_X3_owed hfl hs0 D cI cB cJ mA (0, mo.2.1, mo.2.2.1, mo.2.2.2.1, mo.2.2.2.2.1, mo.2.2.2.2.2.1, mo.2.2.2.2.2.2.1, mo.2.2.2.2.2.2.2.1, mo.2.2.2.2.2.2.2.2.1, mo.2.2.2.2.2.2.2.2.2.1, mo.2.2.2.2.2.2.2.2.2.2.1, mo.2.2.2.2.2.2.2.2.2.2.2) p0 h) q170 v_X3_owed rfl rfl rfl rfl ⟨(Nat.le_of_ble_eq_true rfl), (Nat.le_of_ble_eq_true rfl)⟩ ⟨(Nat.le_of_ble_eq_true rfl), (Nat.le_of_ble_eq_true rfl)⟩ hl.1 rfl (lv_room (Nat.le_of_ble_eq_true rfl)) dX3_owes_15 (fun r15 h => ?_)
    refine lv_goto (tgt := 26) hx hb dX3_owes_18 (by decide) ?_
    exact zW_iret C (r15, (0, mo.2.1, mo.2.2.1, mo.2.2.2.1, mo.2.2.2.2.1, mo.2.2.2.2.2.1, mo.2.2.2.2.2.2.1, mo.2.2.2.2.2.2.2.1, mo.2.2.2.2.2.2.2.2.1, mo.2.2.2.2.2.2.2.2.2.1, mo.2.2.2.2.2.2.2.2.2.2.1, mo.2.2.2.2.2.2.2.2.2.2.2)) rfl h hP hD hS (Nat.le_of_ble_eq_true rfl) (Nat.le_of_ble_eq_true rfl) dX3_owes_26
def wpX3_between_b76 (post : Int32 → Prop) (mo : MS) (p0 : Int32) (p1 : Int32) (K5 : Int32 → Int32 → Prop) (x3 : Int32) (x4 : Int32) : Prop := K5 x3 (x4 + 1)
def wpX3_between_b45 (post : Int32 → Prop) (mo : MS) (p0 : Int32) (p1 : Int32) (K5 : Int32 → Int32 → Prop) (x3 : Int32) (x4 : Int32) : Prop := vp_in x4 20 ∧ (((mo.2.2.2.1 x4.toNatClampNeg) = p0 → vp_in x4 20 ∧ (((mo.2.2.2.2.1 x4.toNatClampNeg) = p1 → wpX3_price (fun r71 => wpX3_between_b76 post mo p0 p1 (fun z0 z1 => K5 z0 z1) (x3 - r71) x4) mo x4) ∧ (¬ (mo.2.2.2.2.1 x4.toNatClampNeg) = p1 → wpX3_between_b76 post mo p0 p1 (fun z0 z1 => K5 z0 z1) x3 x4))) ∧ (¬ (mo.2.2.2.1 x4.toNatClampNeg) = p0 → wpX3_between_b76 post mo p0 p1 (fun z0 z1 => K5 z0 z1) x3 x4))
def wpX3_between_b5 (post : Int32 → Prop) (mo : MS) (p0 : Int32) (p1 : Int32) : Nat → Int32 → Int32 → Prop
  | 0, _, _ => False
  | n + 1, x3, x4 => (mo.2.2.1 ≤ x4 → post x3) ∧ (¬ mo.2.2.1 ≤ x4 → vp_in x4 20 ∧ (((mo.2.2.2.1 x4.toNatClampNeg) = p1 → vp_in x4 20 ∧ (((mo.2.2.2.2.1 x4.toNatClampNeg) = p0 → wpX3_price (fun r40 => wpX3_between_b45 post mo p0 p1 (fun z0 z1 => wpX3_between_b5 post mo p0 p1 n z0 z1) (x3 + r40) x4) mo x4) ∧ (¬ (mo.2.2.2.2.1 x4.toNatClampNeg) = p0 → wpX3_between_b45 post mo p0 p1 (fun z0 z1 => wpX3_between_b5 post mo p0 p1 n z0 z1) x3 x4))) ∧ (¬ (mo.2.2.2.1 x4.toNatClampNeg) = p1 → wpX3_between_b45 post mo p0 p1 (fun z0 z1 => wpX3_between_b5 post mo p0 p1 n z0 z1) x3 x4)))
def wpX3_between (post : Int32 → Prop) (mo : MS) (p0 : Int32) (p1 : Int32) : Prop := ∃ n5 : Nat, wpX3_between_b5 post mo p0 p1 n5 0 0
set_option maxHeartbeats 4000000 in
set_option maxRecDepth 100000 in
theorem c_X3_between {l : Launch} (hfl : l.stackTraces = false) {s0 : State} (hs0 : zS s0) (D : va_G) (cI cB cJ : ClassId) (mA : Nat → Nat) (mo : MS) (p0 : Int32) (p1 : Int32) {post : Int32 → Prop} (h : wpX3_between post mo p0 p1) : zR s0 l D (zty cI cB cJ) yX3_between cX3_between 5 (some .int) 3 [.ref (mA 0), .int p0, .int p1] (wM cI mA mo) (fun u : Int32 => some (Value.int u)) (fun u : Int32 => post u) := by
  refine zR_intro (by decide +kernel) (Nat.le_of_ble_eq_true rfl) ?_
  intro p e s m below meth c C hP hG ls hl
  have C : zC D (zty cI cB cJ) p s m ([.ref (mA 0), .int p0, .int p1] : List Value).toArray meth c cX3_between RX3 (some .int) 5 := C
  have hx := C.1
  have hb := C.2.1
  have hts := C.2.2.1
  have hown := C.2.2.2.1
  have hml := C.2.2.2.2.2.1
  have hK := C.2.2.2.2.2.2.2
  have hl : lv_has ls 5 [(0, .ref (mA 0)), (1, .int p0), (2, .int p1)] := hl
  have k76 : ∀ (K5 : Int32 → Int32 → Prop) (hK5 : ∀ (x3 : Int32) (x4 : Int32) (ls : Array Slot), lv_has ls 5 [(0, .ref (mA 0)), (1, .int p0), (2, .int p1), (3, .int x3), (4, .int x4)] → K5 x3 x4 → W p l e (zr 3 0 0) s m ([.ref (mA 0), .int p0, .int p1] : List Value).toArray below meth c s.heap [] 0 0 (MQ below (zQr (fun u : Int32 => some (Value.int u)) (fun u : Int32 => post u)) ([.ref (mA 0), .int p0, .int p1] : List Value).toArray s 0 0 (fun _ => False)) (F0 m 5 ls [])), ∀ (x3 : Int32) (x4 : Int32) (ls : Array Slot), lv_has ls 5 [(0, .ref (mA 0)), (1, .int p0), (2, .int p1), (3, .int x3), (4, .int x4)] → wpX3_between_b76 post mo p0 p1 K5 x3 x4 → W p l e (zr 3 0 0) s m ([.ref (mA 0), .int p0, .int p1] : List Value).toArray below meth c s.heap [] 0 0 (MQ below (zQr (fun u : Int32 => some (Value.int u)) (fun u : Int32 => post u)) ([.ref (mA 0), .int p0, .int p1] : List Value).toArray s 0 0 (fun _ => False)) (F0 m 76 ls []) := by
    intro K5 hK5
    intro x3 x4 ls hl h
    unfold wpX3_between_b76 at h
    refine lv_iinc (v := (x4 + 1)) (lv' := [(4, .int (x4 + 1)), (0, .ref (mA 0)), (1, .int p0), (2, .int p1), (3, .int x3)]) hx hb dX3_between_76 hl (k := 4) rfl (by first | rfl | decide) (by decide) rfl (fun ls hl => ?_)
    refine lv_goto (tgt := 5) hx hb dX3_between_79 (by decide) ?_
    exact hK5 x3 (x4 + 1)  _ (lv_sub hl [1, 2, 3, 4, 0] rfl) h
  have k45 : ∀ (K5 : Int32 → Int32 → Prop) (hK5 : ∀ (x3 : Int32) (x4 : Int32) (ls : Array Slot), lv_has ls 5 [(0, .ref (mA 0)), (1, .int p0), (2, .int p1), (3, .int x3), (4, .int x4)] → K5 x3 x4 → W p l e (zr 3 0 0) s m ([.ref (mA 0), .int p0, .int p1] : List Value).toArray below meth c s.heap [] 0 0 (MQ below (zQr (fun u : Int32 => some (Value.int u)) (fun u : Int32 => post u)) ([.ref (mA 0), .int p0, .int p1] : List Value).toArray s 0 0 (fun _ => False)) (F0 m 5 ls [])), ∀ (x3 : Int32) (x4 : Int32) (ls : Array Slot), lv_has ls 5 [(0, .ref (mA 0)), (1, .int p0), (2, .int p1), (3, .int x3), (4, .int x4)] → wpX3_between_b45 post mo p0 p1 K5 x3 x4 → W p l e (zr 3 0 0) s m ([.ref (mA 0), .int p0, .int p1] : List Value).toArray below meth c s.heap [] 0 0 (MQ below (zQr (fun u : Int32 => some (Value.int u)) (fun u : Int32 => post u)) ([.ref (mA 0), .int p0, .int p1] : List Value).toArray s 0 0 (fun _ => False)) (F0 m 45 ls []) := by
    intro K5 hK5
    intro x3 x4 ls hl h
    unfold wpX3_between_b45 at h
    refine lv_aload_n hx hb dX3_between_45 rfl (lv_at hl 0 rfl) ?_
    refine z_get C f_X3_9 hP (q0 := 0) rfl rfl dX3_between_46 ?_
    refine lv_iload hx hb dX3_between_49 (lv_at hl 4 rfl) ?_
    obtain ⟨g9, h⟩ := h
    refine va_iald hx hb hK hP 1 0 rfl rfl g9 dX3_between_51 ?_
    refine lv_iload_n hx hb dX3_between_52 rfl (lv_at hl 1 rfl) ?_
    refine lv_icmp_ne (tgt := 76) hx hb dX3_between_53 (by decide) (fun c53 => ?_) (fun c53 => ?_)
    · have h := h.2 c53
      exact k76 _ hK5 x3 x4  _ (lv_sub hl [0, 1, 2, 3, 4] rfl) h
    · have h := h.1 c53
      refine lv_aload_n hx hb dX3_between_56 rfl (lv_at hl 0 rfl) ?_
      refine z_get C f_X3_13 hP (q0 := 0) rfl rfl dX3_between_57 ?_
      refine lv_iload hx hb dX3_between_60 (lv_at hl 4 rfl) ?_
      obtain ⟨g9, h⟩ := h
      refine va_iald hx hb hK hP 2 0 rfl rfl g9 dX3_between_62 ?_
      refine lv_iload_n hx hb dX3_between_63 rfl (lv_at hl 2 rfl) ?_
      refine lv_icmp_ne (tgt := 76) hx hb dX3_between_64 (by decide) (fun c64 => ?_) (fun c64 => ?_)
      · have h := h.2 c64
        exact k76 _ hK5 x3 x4  _ (lv_sub hl [0, 1, 2, 3, 4] rfl) h
      · have h := h.1 c64
        refine lv_iload_n hx hb dX3_between_67 rfl (lv_at hl 3 rfl) ?_
        refine lv_aload_n hx hb dX3_between_68 rfl (lv_at hl 0 rfl) ?_
        refine lv_iload hx hb dX3_between_69 (lv_at hl 4 rfl) ?_
        refine z_RV (As := [.int x4]) (rest := [.int x3]) [0, 1, 2, 3, 4, 5, 6, 7, 8, 9] C hG hP (c_X3_price hfl hs0 D cI cB cJ mA mo x4 h) q88 v_X3_price rfl rfl rfl rfl ⟨(Nat.le_of_ble_eq_true rfl), (Nat.le_of_ble_eq_true rfl)⟩ ⟨(Nat.le_of_ble_eq_true rfl), (Nat.le_of_ble_eq_true rfl)⟩ hl.1 rfl (lv_room (Nat.le_of_ble_eq_true rfl)) dX3_between_71 (fun r71 h => ?_)
        refine lv_isub hx hb dX3_between_74 ?_
        refine lv_istore_n (lv' := [(3, .int (x3 - r71)), (0, .ref (mA 0)), (1, .int p0), (2, .int p1), (4, .int x4)]) hx hb dX3_between_75 rfl hl (by decide) rfl (fun ls hl => ?_)
        exact k76 _ hK5 (x3 - r71) x4  _ (lv_sub hl [1, 2, 3, 0, 4] rfl) h
  have k5 : ∀ (n : Nat) (x3 : Int32) (x4 : Int32) (ls : Array Slot), lv_has ls 5 [(0, .ref (mA 0)), (1, .int p0), (2, .int p1), (3, .int x3), (4, .int x4)] → wpX3_between_b5 post mo p0 p1 n x3 x4 → W p l e (zr 3 0 0) s m ([.ref (mA 0), .int p0, .int p1] : List Value).toArray below meth c s.heap [] 0 0 (MQ below (zQr (fun u : Int32 => some (Value.int u)) (fun u : Int32 => post u)) ([.ref (mA 0), .int p0, .int p1] : List Value).toArray s 0 0 (fun _ => False)) (F0 m 5 ls []) := by
    intro n
    induction n with
    | zero =>
      intro x3 x4 ls hl h
      exact h.elim
    | succ n ih =>
      intro x3 x4 ls hl h
      rw [wpX3_between_b5] at h
      refine lv_iload hx hb dX3_between_5 (lv_at hl 4 rfl) ?_
      refine lv_aload_n hx hb dX3_between_7 rfl (lv_at hl 0 rfl) ?_
      refine z_get C f_X3_55 hP (q0 := 0) rfl rfl dX3_between_8 ?_
      refine lv_icmp_ge (tgt := 82) hx hb dX3_between_11 (by decide) (fun c11 => ?_) (fun c11 => ?_)
      · have h := h.1 c11
        refine lv_iload_n hx hb dX3_between_82 rfl (lv_at hl 3 rfl) ?_
        exact zR_iret C x3 rfl h dX3_between_83
      · have h := h.2 c11
        refine lv_aload_n hx hb dX3_between_14 rfl (lv_at hl 0 rfl) ?_
        refine z_get C f_X3_9 hP (q0 := 0) rfl rfl dX3_between_15 ?_
        refine lv_iload hx hb dX3_between_18 (lv_at hl 4 rfl) ?_
        obtain ⟨g9, h⟩ := h
        refine va_iald hx hb hK hP 1 0 rfl rfl g9 dX3_between_20 ?_
        refine lv_iload_n hx hb dX3_between_21 rfl (lv_at hl 2 rfl) ?_
        refine lv_icmp_ne (tgt := 45) hx hb dX3_between_22 (by decide) (fun c22 => ?_) (fun c22 => ?_)
        · have h := h.2 c22
          exact k45 _ ih x3 x4  _ (lv_sub hl [0, 1, 2, 3, 4] rfl) h
        · have h := h.1 c22
          refine lv_aload_n hx hb dX3_between_25 rfl (lv_at hl 0 rfl) ?_
          refine z_get C f_X3_13 hP (q0 := 0) rfl rfl dX3_between_26 ?_
          refine lv_iload hx hb dX3_between_29 (lv_at hl 4 rfl) ?_
          obtain ⟨g9, h⟩ := h
          refine va_iald hx hb hK hP 2 0 rfl rfl g9 dX3_between_31 ?_
          refine lv_iload_n hx hb dX3_between_32 rfl (lv_at hl 1 rfl) ?_
          refine lv_icmp_ne (tgt := 45) hx hb dX3_between_33 (by decide) (fun c33 => ?_) (fun c33 => ?_)
          · have h := h.2 c33
            exact k45 _ ih x3 x4  _ (lv_sub hl [0, 1, 2, 3, 4] rfl) h
          · have h := h.1 c33
            refine lv_iload_n hx hb dX3_between_36 rfl (lv_at hl 3 rfl) ?_
            refine lv_aload_n hx hb dX3_between_37 rfl (lv_at hl 0 rfl) ?_
            refine lv_iload hx hb dX3_between_38 (lv_at hl 4 rfl) ?_
            refine z_RV (As := [.int x4]) (rest := [.int x3]) [0, 1, 2, 3, 4, 5, 6, 7, 8, 9] C hG hP (c_X3_price hfl hs0 D cI cB cJ mA mo x4 h) q88 v_X3_price rfl rfl rfl rfl ⟨(Nat.le_of_ble_eq_true rfl), (Nat.le_of_ble_eq_true rfl)⟩ ⟨(Nat.le_of_ble_eq_true rfl), (Nat.le_of_ble_eq_true rfl)⟩ hl.1 rfl (lv_room (Nat.le_of_ble_eq_true rfl)) dX3_between_40 (fun r40 h => ?_)
            refine lv_iadd hx hb dX3_between_43 ?_
            refine lv_istore_n (lv' := [(3, .int (x3 + r40)), (0, .ref (mA 0)), (1, .int p0), (2, .int p1), (4, .int x4)]) hx hb dX3_between_44 rfl hl (by decide) rfl (fun ls hl => ?_)
            exact k45 _ ih (x3 + r40) x4  _ (lv_sub hl [1, 2, 3, 0, 4] rfl) h
  unfold wpX3_between at h
  refine lv_iconst (v := 0) hx hb dX3_between_0 (by decide) ?_
  refine lv_istore_n (lv' := [(3, .int 0), (0, .ref (mA 0)), (1, .int p0), (2, .int p1)]) hx hb dX3_between_1 rfl hl (by decide) rfl (fun ls hl => ?_)
  refine lv_iconst (v := 0) hx hb dX3_between_2 (by decide) ?_
  refine lv_istore (lv' := [(4, .int 0), (3, .int 0), (0, .ref (mA 0)), (1, .int p0), (2, .int p1)]) hx hb dX3_between_3 hl (by decide) rfl (fun ls hl => ?_)
  obtain ⟨n9, h⟩ := h
  exact k5 n9 0 0  _ (lv_sub hl [2, 3, 4, 1, 0] rfl) h
def wpX3_balance (post : Int32 → MS → Prop) (mo : MS) (p0 : Int32) (p1 : Int32) : Prop := wpX3_isParty (fun r7 => (r7 = 0 → wpX3_no (fun r32 mo32 => post r32 mo32) (0, mo.2.1, mo.2.2.1, mo.2.2.2.1, mo.2.2.2.2.1, mo.2.2.2.2.2.1, mo.2.2.2.2.2.2.1, mo.2.2.2.2.2.2.2.1, mo.2.2.2.2.2.2.2.2.1, mo.2.2.2.2.2.2.2.2.2.1, mo.2.2.2.2.2.2.2.2.2.2.1, mo.2.2.2.2.2.2.2.2.2.2.2) 1) ∧ (¬ r7 = 0 → wpX3_isParty (fun r15 => (r15 = 0 → wpX3_no (fun r32 mo32 => post r32 mo32) (0, mo.2.1, mo.2.2.1, mo.2.2.2.1, mo.2.2.2.2.1, mo.2.2.2.2.2.1, mo.2.2.2.2.2.2.1, mo.2.2.2.2.2.2.2.1, mo.2.2.2.2.2.2.2.2.1, mo.2.2.2.2.2.2.2.2.2.1, mo.2.2.2.2.2.2.2.2.2.2.1, mo.2.2.2.2.2.2.2.2.2.2.2) 1) ∧ (¬ r15 = 0 → wpX3_between (fun r24 => post r24 (0, mo.2.1, mo.2.2.1, mo.2.2.2.1, mo.2.2.2.2.1, mo.2.2.2.2.2.1, mo.2.2.2.2.2.2.1, mo.2.2.2.2.2.2.2.1, mo.2.2.2.2.2.2.2.2.1, mo.2.2.2.2.2.2.2.2.2.1, mo.2.2.2.2.2.2.2.2.2.2.1, mo.2.2.2.2.2.2.2.2.2.2.2)) (0, mo.2.1, mo.2.2.1, mo.2.2.2.1, mo.2.2.2.2.1, mo.2.2.2.2.2.1, mo.2.2.2.2.2.2.1, mo.2.2.2.2.2.2.2.1, mo.2.2.2.2.2.2.2.2.1, mo.2.2.2.2.2.2.2.2.2.1, mo.2.2.2.2.2.2.2.2.2.2.1, mo.2.2.2.2.2.2.2.2.2.2.2) p0 p1)) (0, mo.2.1, mo.2.2.1, mo.2.2.2.1, mo.2.2.2.2.1, mo.2.2.2.2.2.1, mo.2.2.2.2.2.2.1, mo.2.2.2.2.2.2.2.1, mo.2.2.2.2.2.2.2.2.1, mo.2.2.2.2.2.2.2.2.2.1, mo.2.2.2.2.2.2.2.2.2.2.1, mo.2.2.2.2.2.2.2.2.2.2.2) p1)) (0, mo.2.1, mo.2.2.1, mo.2.2.2.1, mo.2.2.2.2.1, mo.2.2.2.2.2.1, mo.2.2.2.2.2.2.1, mo.2.2.2.2.2.2.2.1, mo.2.2.2.2.2.2.2.2.1, mo.2.2.2.2.2.2.2.2.2.1, mo.2.2.2.2.2.2.2.2.2.2.1, mo.2.2.2.2.2.2.2.2.2.2.2) p0
set_option maxHeartbeats 4000000 in
set_option maxRecDepth 100000 in
theorem c_X3_balance {l : Launch} (hfl : l.stackTraces = false) {s0 : State} (hs0 : zS s0) (D : va_G) (cI cB cJ : ClassId) (mA : Nat → Nat) (mo : MS) (p0 : Int32) (p1 : Int32) {post : Int32 → MS → Prop} (h : wpX3_balance post mo p0 p1) : zW s0 l D (zty cI cB cJ) yX3_balance cX3_balance 3 (some .int) 4 0 0 [.ref (mA 0), .int p0, .int p1] (wM cI mA mo) (fun u : Int32 × MS => some (Value.int u.1)) (fun u : Int32 × MS => post u.1 u.2) (fun u : Int32 × MS => wM cI mA u.2) := by
  refine zW_intro (by decide +kernel) (Nat.le_of_ble_eq_true rfl) ?_
  intro p e s m below meth c A C hnm hA hG hP hD hS ls hl
  have C : zC D (zty cI cB cJ) p s m ([.ref (mA 0), .int p0, .int p1] : List Value).toArray meth c cX3_balance RX3 (some .int) 3 := C
  have hx := C.1
  have hb := C.2.1
  have hts := C.2.2.1
  have hown := C.2.2.2.1
  have hml := C.2.2.2.2.2.1
  have hK := C.2.2.2.2.2.2.2
  have hl : lv_has ls 3 [(0, .ref (mA 0)), (1, .int p0), (2, .int p1)] := hl
  have hP : va_P D vwCl (wM cI mA mo) s.heap := hP
  have hD : va_D A (wM cI mA mo) := hD
  unfold wpX3_balance at h
  refine lv_aload_n hx hb dX3_balance_0 rfl (lv_at hl 0 rfl) ?_
  refine lv_iconst (v := 0) hx hb dX3_balance_1 (by decide) ?_
  refine z_put C f_X3_44 zt_X3 rfl rfl rfl rfl hP hD hS (q0 := 0) rfl (Nat.le_of_ble_eq_true rfl) dX3_balance_2 (fun H locs hP hD hS => ?_)
  have hP : va_P D vwCl (wM cI mA (0, mo.2.1, mo.2.2.1, mo.2.2.2.1, mo.2.2.2.2.1, mo.2.2.2.2.2.1, mo.2.2.2.2.2.2.1, mo.2.2.2.2.2.2.2.1, mo.2.2.2.2.2.2.2.2.1, mo.2.2.2.2.2.2.2.2.2.1, mo.2.2.2.2.2.2.2.2.2.2.1, mo.2.2.2.2.2.2.2.2.2.2.2)) H := hP
  have hD : va_D A (wM cI mA (0, mo.2.1, mo.2.2.1, mo.2.2.2.1, mo.2.2.2.2.1, mo.2.2.2.2.2.1, mo.2.2.2.2.2.2.1, mo.2.2.2.2.2.2.2.1, mo.2.2.2.2.2.2.2.2.1, mo.2.2.2.2.2.2.2.2.2.1, mo.2.2.2.2.2.2.2.2.2.2.1, mo.2.2.2.2.2.2.2.2.2.2.2)) := hD
  refine lv_aload_n hx hb dX3_balance_5 rfl (lv_at hl 0 rfl) ?_
  refine lv_iload_n hx hb dX3_balance_6 rfl (lv_at hl 1 rfl) ?_
  refine z_RV (As := [.int p0]) (rest := []) [0, 1, 2, 3, 4, 5, 6, 7, 8, 9] C (hG.kept hS.1 hS.2.1).none hP (c_X3_isParty hfl hs0 D cI cB cJ mA (0, mo.2.1, mo.2.2.1, mo.2.2.2.1, mo.2.2.2.2.1, mo.2.2.2.2.2.1, mo.2.2.2.2.2.2.1, mo.2.2.2.2.2.2.2.1, mo.2.2.2.2.2.2.2.2.1, mo.2.2.2.2.2.2.2.2.2.1, mo.2.2.2.2.2.2.2.2.2.2.1, mo.2.2.2.2.2.2.2.2.2.2.2) p0 h) q126 v_X3_isParty rfl rfl rfl rfl ⟨(Nat.le_of_ble_eq_true rfl), (Nat.le_of_ble_eq_true rfl)⟩ ⟨(Nat.le_of_ble_eq_true rfl), (Nat.le_of_ble_eq_true rfl)⟩ hl.1 rfl (lv_room (Nat.le_of_ble_eq_true rfl)) dX3_balance_7 (fun r7 h => ?_)
  refine lv_if_eq (tgt := 30) hx hb dX3_balance_10 (by decide) (fun c10 => ?_) (fun c10 => ?_)
  · have h := h.1 c10
    refine lv_aload_n hx hb dX3_balance_30 rfl (lv_at hl 0 rfl) ?_
    refine lv_iconst (v := 1) hx hb dX3_balance_31 (by decide) ?_
    refine z_WV (As := [.int 1]) (rest := []) (wr := ([] : va_W)) (wN := (fun u : Int32 × MS => wM cI mA u.2)) [0, 1, 2, 3, 4, 5, 6, 7, 8, 9] [] [0, 1, 2, 3, 4, 5, 6, 7, 8, 9] C hG hA hP hD hS (c_X3_no hfl hs0 D cI cB cJ mA (0, mo.2.1, mo.2.2.1, mo.2.2.2.1, mo.2.2.2.2.1, mo.2.2.2.2.2.1, mo.2.2.2.2.2.2.1, mo.2.2.2.2.2.2.2.1, mo.2.2.2.2.2.2.2.2.1, mo.2.2.2.2.2.2.2.2.2.1, mo.2.2.2.2.2.2.2.2.2.2.1, mo.2.2.2.2.2.2.2.2.2.2.2) 1 h) q122 v_X3_no rfl rfl ⟨by decide, by decide, by decide⟩ (by decide) (fun _ => rfl) rfl rfl rfl ⟨(Nat.le_of_ble_eq_true rfl), (Nat.le_of_ble_eq_true rfl)⟩ ⟨(Nat.le_of_ble_eq_true rfl), (Nat.le_of_ble_eq_true rfl)⟩ hl.1 rfl (lv_room (Nat.le_of_ble_eq_true rfl)) dX3_balance_32 (fun u H locs h hP hD hS => ?_)
    obtain ⟨r32, mo32⟩ := u
    have hP : va_P D vwCl (wM cI mA mo32) H := hP
    have hD : va_D A (wM cI mA mo32) := hD
    exact zW_iret C (r32, mo32) rfl h hP hD hS (Nat.le_of_ble_eq_true rfl) (Nat.le_of_ble_eq_true rfl) dX3_balance_35
  · have h := h.2 c10
    refine lv_aload_n hx hb dX3_balance_13 rfl (lv_at hl 0 rfl) ?_
    refine lv_iload_n hx hb dX3_balance_14 rfl (lv_at hl 2 rfl) ?_
    refine z_RV (As := [.int p1]) (rest := []) [0, 1, 2, 3, 4, 5, 6, 7, 8, 9] C (hG.kept hS.1 hS.2.1).none hP (c_X3_isParty hfl hs0 D cI cB cJ mA (0, mo.2.1, mo.2.2.1, mo.2.2.2.1, mo.2.2.2.2.1, mo.2.2.2.2.2.1, mo.2.2.2.2.2.2.1, mo.2.2.2.2.2.2.2.1, mo.2.2.2.2.2.2.2.2.1, mo.2.2.2.2.2.2.2.2.2.1, mo.2.2.2.2.2.2.2.2.2.2.1, mo.2.2.2.2.2.2.2.2.2.2.2) p1 h) q126 v_X3_isParty rfl rfl rfl rfl ⟨(Nat.le_of_ble_eq_true rfl), (Nat.le_of_ble_eq_true rfl)⟩ ⟨(Nat.le_of_ble_eq_true rfl), (Nat.le_of_ble_eq_true rfl)⟩ hl.1 rfl (lv_room (Nat.le_of_ble_eq_true rfl)) dX3_balance_15 (fun r15 h => ?_)
    refine lv_if_eq (tgt := 30) hx hb dX3_balance_18 (by decide) (fun c18 => ?_) (fun c18 => ?_)
    · have h := h.1 c18
      refine lv_aload_n hx hb dX3_balance_30 rfl (lv_at hl 0 rfl) ?_
      refine lv_iconst (v := 1) hx hb dX3_balance_31 (by decide) ?_
      refine z_WV (As := [.int 1]) (rest := []) (wr := ([] : va_W)) (wN := (fun u : Int32 × MS => wM cI mA u.2)) [0, 1, 2, 3, 4, 5, 6, 7, 8, 9] [] [0, 1, 2, 3, 4, 5, 6, 7, 8, 9] C hG hA hP hD hS (c_X3_no hfl hs0 D cI cB cJ mA (0, mo.2.1, mo.2.2.1, mo.2.2.2.1, mo.2.2.2.2.1, mo.2.2.2.2.2.1, mo.2.2.2.2.2.2.1, mo.2.2.2.2.2.2.2.1, mo.2.2.2.2.2.2.2.2.1, mo.2.2.2.2.2.2.2.2.2.1, mo.2.2.2.2.2.2.2.2.2.2.1, mo.2.2.2.2.2.2.2.2.2.2.2) 1 h) q122 v_X3_no rfl rfl ⟨by decide, by decide, by decide⟩ (by decide) (fun _ => rfl) rfl rfl rfl ⟨(Nat.le_of_ble_eq_true rfl), (Nat.le_of_ble_eq_true rfl)⟩ ⟨(Nat.le_of_ble_eq_true rfl), (Nat.le_of_ble_eq_true rfl)⟩ hl.1 rfl (lv_room (Nat.le_of_ble_eq_true rfl)) dX3_balance_32 (fun u H locs h hP hD hS => ?_)
      obtain ⟨r32, mo32⟩ := u
      have hP : va_P D vwCl (wM cI mA mo32) H := hP
      have hD : va_D A (wM cI mA mo32) := hD
      exact zW_iret C (r32, mo32) rfl h hP hD hS (Nat.le_of_ble_eq_true rfl) (Nat.le_of_ble_eq_true rfl) dX3_balance_35
    · have h := h.2 c18
      refine lv_aload_n hx hb dX3_balance_21 rfl (lv_at hl 0 rfl) ?_
      refine lv_iload_n hx hb dX3_balance_22 rfl (lv_at hl 1 rfl) ?_
      refine lv_iload_n hx hb dX3_balance_23 rfl (lv_at hl 2 rfl) ?_
      refine z_RV (As := [.int p0, .int p1]) (rest := []) [0, 1, 2, 3, 4, 5, 6, 7, 8, 9] C (hG.kept hS.1 hS.2.1).none hP (c_X3_between hfl hs0 D cI cB cJ mA (0, mo.2.1, mo.2.2.1, mo.2.2.2.1, mo.2.2.2.2.1, mo.2.2.2.2.2.1, mo.2.2.2.2.2.2.1, mo.2.2.2.2.2.2.2.1, mo.2.2.2.2.2.2.2.2.1, mo.2.2.2.2.2.2.2.2.2.1, mo.2.2.2.2.2.2.2.2.2.2.1, mo.2.2.2.2.2.2.2.2.2.2.2) p0 p1 h) q174 v_X3_between rfl rfl rfl rfl ⟨(Nat.le_of_ble_eq_true rfl), (Nat.le_of_ble_eq_true rfl)⟩ ⟨(Nat.le_of_ble_eq_true rfl), (Nat.le_of_ble_eq_true rfl)⟩ hl.1 rfl (lv_room (Nat.le_of_ble_eq_true rfl)) dX3_balance_24 (fun r24 h => ?_)
      refine lv_goto (tgt := 35) hx hb dX3_balance_27 (by decide) ?_
      exact zW_iret C (r24, (0, mo.2.1, mo.2.2.1, mo.2.2.2.1, mo.2.2.2.2.1, mo.2.2.2.2.2.1, mo.2.2.2.2.2.2.1, mo.2.2.2.2.2.2.2.1, mo.2.2.2.2.2.2.2.2.1, mo.2.2.2.2.2.2.2.2.2.1, mo.2.2.2.2.2.2.2.2.2.2.1, mo.2.2.2.2.2.2.2.2.2.2.2)) rfl h hP hD hS (Nat.le_of_ble_eq_true rfl) (Nat.le_of_ble_eq_true rfl) dX3_balance_35
def wpX3_weak_b44 (post : Int32 → Prop) (mo : MS) (K6 : Int32 → Int32 → Int32 → Prop) (x1 : Int32) (x2 : Int32) (x3 : Int32) : Prop := K6 x1 x2 (x3 + 1)
def wpX3_weak_b6 (post : Int32 → Prop) (mo : MS) : Nat → Int32 → Int32 → Int32 → Prop
  | 0, _, _, _ => False
  | n + 1, x1, x2, x3 => (mo.2.1 ≤ x3 → post x1) ∧ (¬ mo.2.1 ≤ x3 → wpX3_owed (fun r16 => vp_in (2 + x3) 68 ∧ ((x2 < (r16 - (mo.2.2.2.2.2.2.2.2.2.2.1 (2 + x3).toNatClampNeg)) → wpX3_weak_b44 post mo (fun z0 z1 z2 => wpX3_weak_b6 post mo n z0 z1 z2) x3 (r16 - (mo.2.2.2.2.2.2.2.2.2.2.1 (2 + x3).toNatClampNeg)) x3) ∧ (¬ x2 < (r16 - (mo.2.2.2.2.2.2.2.2.2.2.1 (2 + x3).toNatClampNeg)) → wpX3_weak_b44 post mo (fun z0 z1 z2 => wpX3_weak_b6 post mo n z0 z1 z2) x1 x2 x3))) mo x3)
def wpX3_weak (post : Int32 → Prop) (mo : MS) : Prop := ∃ n6 : Nat, wpX3_weak_b6 post mo n6 (-1) 0 0
set_option maxHeartbeats 4000000 in
set_option maxRecDepth 100000 in
theorem c_X3_weak {l : Launch} (hfl : l.stackTraces = false) {s0 : State} (hs0 : zS s0) (D : va_G) (cI cB cJ : ClassId) (mA : Nat → Nat) (mo : MS) {post : Int32 → Prop} (h : wpX3_weak post mo) : zR s0 l D (zty cI cB cJ) yX3_weak cX3_weak 5 (some .int) 4 [.ref (mA 0)] (wM cI mA mo) (fun u : Int32 => some (Value.int u)) (fun u : Int32 => post u) := by
  refine zR_intro (by decide +kernel) (Nat.le_of_ble_eq_true rfl) ?_
  intro p e s m below meth c C hP hG ls hl
  have C : zC D (zty cI cB cJ) p s m ([.ref (mA 0)] : List Value).toArray meth c cX3_weak RX3 (some .int) 5 := C
  have hx := C.1
  have hb := C.2.1
  have hts := C.2.2.1
  have hown := C.2.2.2.1
  have hml := C.2.2.2.2.2.1
  have hK := C.2.2.2.2.2.2.2
  have hl : lv_has ls 5 [(0, .ref (mA 0))] := hl
  have k44 : ∀ (K6 : Int32 → Int32 → Int32 → Prop) (hK6 : ∀ (x1 : Int32) (x2 : Int32) (x3 : Int32) (ls : Array Slot), lv_has ls 5 [(0, .ref (mA 0)), (1, .int x1), (2, .int x2), (3, .int x3)] → K6 x1 x2 x3 → W p l e (zr 4 0 0) s m ([.ref (mA 0)] : List Value).toArray below meth c s.heap [] 0 0 (MQ below (zQr (fun u : Int32 => some (Value.int u)) (fun u : Int32 => post u)) ([.ref (mA 0)] : List Value).toArray s 0 0 (fun _ => False)) (F0 m 6 ls [])), ∀ (x1 : Int32) (x2 : Int32) (x3 : Int32) (ls : Array Slot), lv_has ls 5 [(0, .ref (mA 0)), (1, .int x1), (2, .int x2), (3, .int x3)] → wpX3_weak_b44 post mo K6 x1 x2 x3 → W p l e (zr 4 0 0) s m ([.ref (mA 0)] : List Value).toArray below meth c s.heap [] 0 0 (MQ below (zQr (fun u : Int32 => some (Value.int u)) (fun u : Int32 => post u)) ([.ref (mA 0)] : List Value).toArray s 0 0 (fun _ => False)) (F0 m 44 ls []) := by
    intro K6 hK6
    intro x1 x2 x3 ls hl h
    unfold wpX3_weak_b44 at h
    refine lv_iinc (v := (x3 + 1)) (lv' := [(3, .int (x3 + 1)), (0, .ref (mA 0)), (1, .int x1), (2, .int x2)]) hx hb dX3_weak_44 hl (k := 3) rfl (by first | rfl | decide) (by decide) rfl (fun ls hl => ?_)
    refine lv_goto (tgt := 6) hx hb dX3_weak_47 (by decide) ?_
    exact hK6 x1 x2 (x3 + 1)  _ (lv_sub hl [1, 2, 3, 0] rfl) h
  have k6 : ∀ (n : Nat) (x1 : Int32) (x2 : Int32) (x3 : Int32) (ls : Array Slot), lv_has ls 5 [(0, .ref (mA 0)), (1, .int x1), (2, .int x2), (3, .int x3)] → wpX3_weak_b6 post mo n x1 x2 x3 → W p l e (zr 4 0 0) s m ([.ref (mA 0)] : List Value).toArray below meth c s.heap [] 0 0 (MQ below (zQr (fun u : Int32 => some (Value.int u)) (fun u : Int32 => post u)) ([.ref (mA 0)] : List Value).toArray s 0 0 (fun _ => False)) (F0 m 6 ls []) := by
    intro n
    induction n with
    | zero =>
      intro x1 x2 x3 ls hl h
      exact h.elim
    | succ n ih =>
      intro x1 x2 x3 ls hl h
      rw [wpX3_weak_b6] at h
      refine lv_iload_n hx hb dX3_weak_6 rfl (lv_at hl 3 rfl) ?_
      refine lv_aload_n hx hb dX3_weak_7 rfl (lv_at hl 0 rfl) ?_
      refine z_get C f_X3_48 hP (q0 := 0) rfl rfl dX3_weak_8 ?_
      refine lv_icmp_ge (tgt := 50) hx hb dX3_weak_11 (by decide) (fun c11 => ?_) (fun c11 => ?_)
      · have h := h.1 c11
        refine lv_iload_n hx hb dX3_weak_50 rfl (lv_at hl 1 rfl) ?_
        exact zR_iret C x1 rfl h dX3_weak_51
      · have h := h.2 c11
        refine lv_aload_n hx hb dX3_weak_14 rfl (lv_at hl 0 rfl) ?_
        refine lv_iload_n hx hb dX3_weak_15 rfl (lv_at hl 3 rfl) ?_
        refine z_RV (As := [.int x3]) (rest := []) [0, 1, 2, 3, 4, 5, 6, 7, 8, 9] C hG hP (c_X3_owed hfl hs0 D cI cB cJ mA mo x3 h) q170 v_X3_owed rfl rfl rfl rfl ⟨(Nat.le_of_ble_eq_true rfl), (Nat.le_of_ble_eq_true rfl)⟩ ⟨(Nat.le_of_ble_eq_true rfl), (Nat.le_of_ble_eq_true rfl)⟩ hl.1 rfl (lv_room (Nat.le_of_ble_eq_true rfl)) dX3_weak_16 (fun r16 h => ?_)
        refine lv_aload_n hx hb dX3_weak_19 rfl (lv_at hl 0 rfl) ?_
        refine z_get C f_X3_31 hP (q0 := 0) rfl rfl dX3_weak_20 ?_
        refine lv_iconst (v := 2) hx hb dX3_weak_23 (by decide) ?_
        refine lv_iload_n hx hb dX3_weak_24 rfl (lv_at hl 3 rfl) ?_
        refine lv_iadd hx hb dX3_weak_25 ?_
        obtain ⟨g9, h⟩ := h
        refine va_iald hx hb hK hP 8 0 rfl rfl g9 dX3_weak_26 ?_
        refine lv_isub hx hb dX3_weak_27 ?_
        refine lv_istore (lv' := [(4, .int (r16 - (mo.2.2.2.2.2.2.2.2.2.2.1 (2 + x3).toNatClampNeg))), (0, .ref (mA 0)), (1, .int x1), (2, .int x2), (3, .int x3)]) hx hb dX3_weak_28 hl (by decide) rfl (fun ls hl => ?_)
        refine lv_iload hx hb dX3_weak_30 (lv_at hl 0 rfl) ?_
        refine lv_iload_n hx hb dX3_weak_32 rfl (lv_at hl 3 rfl) ?_
        refine lv_icmp_gt (tgt := 39) hx hb dX3_weak_33 (by decide) (fun c33 => ?_) (fun c33 => ?_)
        · have h := h.1 c33
          refine lv_iload_n hx hb dX3_weak_39 rfl (lv_at hl 4 rfl) ?_
          refine lv_istore_n (lv' := [(1, .int x3), (4, .int (r16 - (mo.2.2.2.2.2.2.2.2.2.2.1 (2 + x3).toNatClampNeg))), (0, .ref (mA 0)), (2, .int x2), (3, .int x3)]) hx hb dX3_weak_40 rfl hl (by decide) rfl (fun ls hl => ?_)
          refine lv_iload hx hb dX3_weak_41 (lv_at hl 1 rfl) ?_
          refine lv_istore_n (lv' := [(2, .int (r16 - (mo.2.2.2.2.2.2.2.2.2.2.1 (2 + x3).toNatClampNeg))), (1, .int x3), (4, .int (r16 - (mo.2.2.2.2.2.2.2.2.2.2.1 (2 + x3).toNatClampNeg))), (0, .ref (mA 0)), (3, .int x3)]) hx hb dX3_weak_43 rfl hl (by decide) rfl (fun ls hl => ?_)
          exact k44 _ ih x3 (r16 - (mo.2.2.2.2.2.2.2.2.2.2.1 (2 + x3).toNatClampNeg)) x3  _ (lv_sub hl [3, 1, 0, 4] rfl) h
        · have h := h.2 c33
          refine lv_goto (tgt := 44) hx hb dX3_weak_36 (by decide) ?_
          exact k44 _ ih x1 x2 x3  _ (lv_sub hl [1, 2, 3, 4] rfl) h
  unfold wpX3_weak at h
  refine lv_iconst (v := (-1)) hx hb dX3_weak_0 (by decide) ?_
  refine lv_istore_n (lv' := [(1, .int (-1)), (0, .ref (mA 0))]) hx hb dX3_weak_1 rfl hl (by decide) rfl (fun ls hl => ?_)
  refine lv_iconst (v := 0) hx hb dX3_weak_2 (by decide) ?_
  refine lv_istore_n (lv' := [(2, .int 0), (1, .int (-1)), (0, .ref (mA 0))]) hx hb dX3_weak_3 rfl hl (by decide) rfl (fun ls hl => ?_)
  refine lv_iconst (v := 0) hx hb dX3_weak_4 (by decide) ?_
  refine lv_istore_n (lv' := [(3, .int 0), (2, .int 0), (1, .int (-1)), (0, .ref (mA 0))]) hx hb dX3_weak_5 rfl hl (by decide) rfl (fun ls hl => ?_)
  obtain ⟨n9, h⟩ := h
  exact k6 n9 (-1) 0 0  _ (lv_sub hl [3, 2, 1, 0] rfl) h
def wpX3_weakest (post : Int32 → MS → Prop) (mo : MS) : Prop := wpX3_weak (fun r2 => wpX3_ok (fun r5 mo5 => post r5 mo5) mo r2) mo
set_option maxHeartbeats 4000000 in
set_option maxRecDepth 100000 in
theorem c_X3_weakest {l : Launch} (hfl : l.stackTraces = false) {s0 : State} (hs0 : zS s0) (D : va_G) (cI cB cJ : ClassId) (mA : Nat → Nat) (mo : MS) {post : Int32 → MS → Prop} (h : wpX3_weakest post mo) : zW s0 l D (zty cI cB cJ) yX3_weakest cX3_weakest 1 (some .int) 5 0 0 [.ref (mA 0)] (wM cI mA mo) (fun u : Int32 × MS => some (Value.int u.1)) (fun u : Int32 × MS => post u.1 u.2) (fun u : Int32 × MS => wM cI mA u.2) := by
  refine zW_intro (by decide +kernel) (Nat.le_of_ble_eq_true rfl) ?_
  intro p e s m below meth c A C hnm hA hG hP hD hS ls hl
  have C : zC D (zty cI cB cJ) p s m ([.ref (mA 0)] : List Value).toArray meth c cX3_weakest RX3 (some .int) 1 := C
  have hx := C.1
  have hb := C.2.1
  have hts := C.2.2.1
  have hown := C.2.2.2.1
  have hml := C.2.2.2.2.2.1
  have hK := C.2.2.2.2.2.2.2
  have hl : lv_has ls 1 [(0, .ref (mA 0))] := hl
  have hP : va_P D vwCl (wM cI mA mo) s.heap := hP
  have hD : va_D A (wM cI mA mo) := hD
  unfold wpX3_weakest at h
  refine lv_aload_n hx hb dX3_weakest_0 rfl (lv_at hl 0 rfl) ?_
  refine lv_aload_n hx hb dX3_weakest_1 rfl (lv_at hl 0 rfl) ?_
  refine z_RV (As := []) (rest := [.ref (mA 0)]) [0, 1, 2, 3, 4, 5, 6, 7, 8, 9] C (hG.kept hS.1 hS.2.1).none hP (c_X3_weak hfl hs0 D cI cB cJ mA mo h) q178 v_X3_weak rfl rfl rfl rfl ⟨(Nat.le_of_ble_eq_true rfl), (Nat.le_of_ble_eq_true rfl)⟩ ⟨(Nat.le_of_ble_eq_true rfl), (Nat.le_of_ble_eq_true rfl)⟩ hl.1 rfl (lv_room (Nat.le_of_ble_eq_true rfl)) dX3_weakest_2 (fun r2 h => ?_)
  refine z_WV (As := [.int r2]) (rest := []) (wr := ([] : va_W)) (wN := (fun u : Int32 × MS => wM cI mA u.2)) [0, 1, 2, 3, 4, 5, 6, 7, 8, 9] [] [0, 1, 2, 3, 4, 5, 6, 7, 8, 9] C hG hA hP hD hS (c_X3_ok hfl hs0 D cI cB cJ mA mo r2 h) q150 v_X3_ok rfl rfl ⟨by decide, by decide, by decide⟩ (by decide) (fun _ => rfl) rfl rfl rfl ⟨(Nat.le_of_ble_eq_true rfl), (Nat.le_of_ble_eq_true rfl)⟩ ⟨(Nat.le_of_ble_eq_true rfl), (Nat.le_of_ble_eq_true rfl)⟩ hl.1 rfl (lv_room (Nat.le_of_ble_eq_true rfl)) dX3_weakest_5 (fun u H locs h hP hD hS => ?_)
  obtain ⟨r5, mo5⟩ := u
  have hP : va_P D vwCl (wM cI mA mo5) H := hP
  have hD : va_D A (wM cI mA mo5) := hD
  exact zW_iret C (r5, mo5) rfl h hP hD hS (Nat.le_of_ble_eq_true rfl) (Nat.le_of_ble_eq_true rfl) dX3_weakest_8
def wpX3_untilFailed_b45 (post : Int32 → MS → Prop) (p0 : Int32) (K19 : Int32 → Int32 → MS → Prop) (x2 : Int32) (x3 : Int32) (mo_ : MS) : Prop := K19 x2 (x3 + 1) mo_
def wpX3_untilFailed_b19 (post : Int32 → MS → Prop) (p0 : Int32) : Nat → Int32 → Int32 → MS → Prop
  | 0, _, _, _ => False
  | n + 1, x2, x3, mo_ => (60 < x3 → wpX3_bringBack (fun mo52 => post x2 mo52) mo_) ∧ (¬ 60 < x3 → (x2 = (-1) → wpX3_dayOn (fun mo31 => wpX3_state (fun r36 => (r36 = 4 → wpX3_untilFailed_b45 post p0 (fun z0 z1 z2 => wpX3_untilFailed_b19 post p0 n z0 z1 z2) x3 x3 mo31) ∧ (¬ r36 = 4 → wpX3_untilFailed_b45 post p0 (fun z0 z1 z2 => wpX3_untilFailed_b19 post p0 n z0 z1 z2) x2 x3 mo31)) mo31 p0) mo_) ∧ (¬ x2 = (-1) → wpX3_bringBack (fun mo52 => post x2 mo52) mo_))
def wpX3_untilFailed (post : Int32 → MS → Prop) (mo : MS) (p0 : Int32) : Prop := wpX3_state (fun r2 => (r2 = 4 → post (-1) mo) ∧ (¬ r2 = 4 → wpX3_keep (fun mo12 => ∃ n19 : Nat, wpX3_untilFailed_b19 post p0 n19 (-1) 1 mo12) mo)) mo p0
set_option maxHeartbeats 4000000 in
set_option maxRecDepth 100000 in
theorem c_X3_untilFailed {l : Launch} (hfl : l.stackTraces = false) {s0 : State} (hs0 : zS s0) (D : va_G) (cI cB cJ : ClassId) (mA : Nat → Nat) (mo : MS) (p0 : Int32) {post : Int32 → MS → Prop} (h : wpX3_untilFailed post mo p0) : zW s0 l D (zty cI cB cJ) yX3_untilFailed cX3_untilFailed 4 (some .int) 6 0 0 [.ref (mA 0), .int p0] (wM cI mA mo) (fun u : Int32 × MS => some (Value.int u.1)) (fun u : Int32 × MS => post u.1 u.2) (fun u : Int32 × MS => wM cI mA u.2) := by
  refine zW_intro (by decide +kernel) (Nat.le_of_ble_eq_true rfl) ?_
  intro p e s m below meth c A C hnm hA hG hP hD hS ls hl
  have C : zC D (zty cI cB cJ) p s m ([.ref (mA 0), .int p0] : List Value).toArray meth c cX3_untilFailed RX3 (some .int) 4 := C
  have hx := C.1
  have hb := C.2.1
  have hts := C.2.2.1
  have hown := C.2.2.2.1
  have hml := C.2.2.2.2.2.1
  have hK := C.2.2.2.2.2.2.2
  have hl : lv_has ls 4 [(0, .ref (mA 0)), (1, .int p0)] := hl
  have hP : va_P D vwCl (wM cI mA mo) s.heap := hP
  have hD : va_D A (wM cI mA mo) := hD
  have k45 : ∀ (K19 : Int32 → Int32 → MS → Prop) (hK19 : ∀ (x2 : Int32) (x3 : Int32) (mo_ : MS) (H : Heap) (locs : List Loc), va_P D vwCl (wM cI mA mo_) H → va_D A (wM cI mA mo_) → va_S A s.heap H locs → ∀ (ls : Array Slot), lv_has ls 4 [(0, .ref (mA 0)), (1, .int p0), (2, .int x2), (3, .int x3)] → K19 x2 x3 mo_ → W p l e (zr 6 0 0) s m ([.ref (mA 0), .int p0] : List Value).toArray below meth c H locs 0 0 (MQ below (zQ D (fun u : Int32 × MS => some (Value.int u.1)) (fun u : Int32 × MS => post u.1 u.2) (fun u : Int32 × MS => wM cI mA u.2) A) ([.ref (mA 0), .int p0] : List Value).toArray s 0 0 A) (F0 m 19 ls [])), ∀ (x2 : Int32) (x3 : Int32) (mo_ : MS) (H : Heap) (locs : List Loc), va_P D vwCl (wM cI mA mo_) H → va_D A (wM cI mA mo_) → va_S A s.heap H locs → ∀ (ls : Array Slot), lv_has ls 4 [(0, .ref (mA 0)), (1, .int p0), (2, .int x2), (3, .int x3)] → wpX3_untilFailed_b45 post p0 K19 x2 x3 mo_ → W p l e (zr 6 0 0) s m ([.ref (mA 0), .int p0] : List Value).toArray below meth c H locs 0 0 (MQ below (zQ D (fun u : Int32 × MS => some (Value.int u.1)) (fun u : Int32 × MS => post u.1 u.2) (fun u : Int32 × MS => wM cI mA u.2) A) ([.ref (mA 0), .int p0] : List Value).toArray s 0 0 A) (F0 m 45 ls []) := by
    intro K19 hK19
    intro x2 x3 mo_ H locs hP hD hS ls hl h
    unfold wpX3_untilFailed_b45 at h
    refine lv_iinc (v := (x3 + 1)) (lv' := [(3, .int (x3 + 1)), (0, .ref (mA 0)), (1, .int p0), (2, .int x2)]) hx hb dX3_untilFailed_45 hl (k := 3) rfl (by first | rfl | decide) (by decide) rfl (fun ls hl => ?_)
    refine lv_goto (tgt := 19) hx hb dX3_untilFailed_48 (by decide) ?_
    refine W.widen (k := 0) (n := 0) (Nat.le_of_ble_eq_true rfl) (Nat.le_of_ble_eq_true rfl) ?_
    exact hK19 x2 (x3 + 1) mo_  _ _ hP hD hS _ (lv_sub hl [1, 2, 3, 0] rfl) h
  have k19 : ∀ (n : Nat) (x2 : Int32) (x3 : Int32) (mo_ : MS) (H : Heap) (locs : List Loc), va_P D vwCl (wM cI mA mo_) H → va_D A (wM cI mA mo_) → va_S A s.heap H locs → ∀ (ls : Array Slot), lv_has ls 4 [(0, .ref (mA 0)), (1, .int p0), (2, .int x2), (3, .int x3)] → wpX3_untilFailed_b19 post p0 n x2 x3 mo_ → W p l e (zr 6 0 0) s m ([.ref (mA 0), .int p0] : List Value).toArray below meth c H locs 0 0 (MQ below (zQ D (fun u : Int32 × MS => some (Value.int u.1)) (fun u : Int32 × MS => post u.1 u.2) (fun u : Int32 × MS => wM cI mA u.2) A) ([.ref (mA 0), .int p0] : List Value).toArray s 0 0 A) (F0 m 19 ls []) := by
    intro n
    induction n with
    | zero =>
      intro x2 x3 mo_ H locs hP hD hS ls hl h
      exact h.elim
    | succ n ih =>
      intro x2 x3 mo_ H locs hP hD hS ls hl h
      rw [wpX3_untilFailed_b19] at h
      refine lv_iload_n hx hb dX3_untilFailed_19 rfl (lv_at hl 3 rfl) ?_
      refine lv_bipush (v := 60) hx hb dX3_untilFailed_20 (by decide) ?_
      refine lv_icmp_gt (tgt := 51) hx hb dX3_untilFailed_22 (by decide) (fun c22 => ?_) (fun c22 => ?_)
      · have h := h.1 c22
        refine lv_aload_n hx hb dX3_untilFailed_51 rfl (lv_at hl 0 rfl) ?_
        refine z_WV (As := []) (rest := []) (wr := ([] : va_W)) (wN := (fun u : MS => wM cI mA u)) [0, 1, 2, 3, 4, 5, 6, 7, 8, 9] [] [0, 1, 2, 3, 4, 5, 6, 7, 8, 9] C hG hA hP hD hS (c_X3_bringBack hfl hs0 D cI cB cJ mA mo_ h) q186 v_X3_bringBack rfl rfl ⟨by decide, by decide, by decide⟩ (by decide) (fun _ => rfl) rfl rfl rfl ⟨(Nat.le_of_ble_eq_true rfl), (Nat.le_of_ble_eq_true rfl)⟩ ⟨(Nat.le_of_ble_eq_true rfl), (Nat.le_of_ble_eq_true rfl)⟩ hl.1 rfl (lv_room (Nat.le_of_ble_eq_true rfl)) dX3_untilFailed_52 (fun u H locs h hP hD hS => ?_)
        obtain ⟨mo52, rfl⟩ : ∃ z, z = u := ⟨_, rfl⟩
        have hP : va_P D vwCl (wM cI mA mo52) H := hP
        have hD : va_D A (wM cI mA mo52) := hD
        refine lv_iload_n hx hb dX3_untilFailed_55 rfl (lv_at hl 2 rfl) ?_
        exact zW_iret C (x2, mo52) rfl h hP hD hS (Nat.le_of_ble_eq_true rfl) (Nat.le_of_ble_eq_true rfl) dX3_untilFailed_56
      · have h := h.2 c22
        refine lv_iload_n hx hb dX3_untilFailed_25 rfl (lv_at hl 2 rfl) ?_
        refine lv_iconst (v := (-1)) hx hb dX3_untilFailed_26 (by decide) ?_
        refine lv_icmp_ne (tgt := 51) hx hb dX3_untilFailed_27 (by decide) (fun c27 => ?_) (fun c27 => ?_)
        · have h := h.2 c27
          refine lv_aload_n hx hb dX3_untilFailed_51 rfl (lv_at hl 0 rfl) ?_
          refine z_WV (As := []) (rest := []) (wr := ([] : va_W)) (wN := (fun u : MS => wM cI mA u)) [0, 1, 2, 3, 4, 5, 6, 7, 8, 9] [] [0, 1, 2, 3, 4, 5, 6, 7, 8, 9] C hG hA hP hD hS (c_X3_bringBack hfl hs0 D cI cB cJ mA mo_ h) q186 v_X3_bringBack rfl rfl ⟨by decide, by decide, by decide⟩ (by decide) (fun _ => rfl) rfl rfl rfl ⟨(Nat.le_of_ble_eq_true rfl), (Nat.le_of_ble_eq_true rfl)⟩ ⟨(Nat.le_of_ble_eq_true rfl), (Nat.le_of_ble_eq_true rfl)⟩ hl.1 rfl (lv_room (Nat.le_of_ble_eq_true rfl)) dX3_untilFailed_52 (fun u H locs h hP hD hS => ?_)
          obtain ⟨mo52, rfl⟩ : ∃ z, z = u := ⟨_, rfl⟩
          have hP : va_P D vwCl (wM cI mA mo52) H := hP
          have hD : va_D A (wM cI mA mo52) := hD
          refine lv_iload_n hx hb dX3_untilFailed_55 rfl (lv_at hl 2 rfl) ?_
          exact zW_iret C (x2, mo52) rfl h hP hD hS (Nat.le_of_ble_eq_true rfl) (Nat.le_of_ble_eq_true rfl) dX3_untilFailed_56
        · have h := h.1 c27
          refine lv_aload_n hx hb dX3_untilFailed_30 rfl (lv_at hl 0 rfl) ?_
          refine z_WV (As := []) (rest := []) (wr := ([] : va_W)) (wN := (fun u : MS => wM cI mA u)) [0, 1, 2, 3, 4, 5, 6, 7, 8, 9] [] [0, 1, 2, 3, 4, 5, 6, 7, 8, 9] C hG hA hP hD hS (c_X3_dayOn hfl hs0 D cI cB cJ mA mo_ h) q118 v_X3_dayOn rfl rfl ⟨by decide, by decide, by decide⟩ (by decide) (fun _ => rfl) rfl rfl rfl ⟨(Nat.le_of_ble_eq_true rfl), (Nat.le_of_ble_eq_true rfl)⟩ ⟨(Nat.le_of_ble_eq_true rfl), (Nat.le_of_ble_eq_true rfl)⟩ hl.1 rfl (lv_room (Nat.le_of_ble_eq_true rfl)) dX3_untilFailed_31 (fun u H locs h hP hD hS => ?_)
          obtain ⟨mo31, rfl⟩ : ∃ z, z = u := ⟨_, rfl⟩
          have hP : va_P D vwCl (wM cI mA mo31) H := hP
          have hD : va_D A (wM cI mA mo31) := hD
          refine lv_aload_n hx hb dX3_untilFailed_34 rfl (lv_at hl 0 rfl) ?_
          refine lv_iload_n hx hb dX3_untilFailed_35 rfl (lv_at hl 1 rfl) ?_
          refine z_RV (As := [.int p0]) (rest := []) [0, 1, 2, 3, 4, 5, 6, 7, 8, 9] C (hG.kept hS.1 hS.2.1).none hP (c_X3_state hfl hs0 D cI cB cJ mA mo31 p0 h) q74 v_X3_state rfl rfl rfl rfl ⟨(Nat.le_of_ble_eq_true rfl), (Nat.le_of_ble_eq_true rfl)⟩ ⟨(Nat.le_of_ble_eq_true rfl), (Nat.le_of_ble_eq_true rfl)⟩ hl.1 rfl (lv_room (Nat.le_of_ble_eq_true rfl)) dX3_untilFailed_36 (fun r36 h => ?_)
          refine lv_iconst (v := 4) hx hb dX3_untilFailed_39 (by decide) ?_
          refine lv_icmp_ne (tgt := 45) hx hb dX3_untilFailed_40 (by decide) (fun c40 => ?_) (fun c40 => ?_)
          · have h := h.2 c40
            refine W.widen (k := 0) (n := 0) (Nat.le_of_ble_eq_true rfl) (Nat.le_of_ble_eq_true rfl) ?_
            exact k45 _ ih x2 x3 mo31  _ _ hP hD hS _ (lv_sub hl [0, 1, 2, 3] rfl) h
          · have h := h.1 c40
            refine lv_iload_n hx hb dX3_untilFailed_43 rfl (lv_at hl 3 rfl) ?_
            refine lv_istore_n (lv' := [(2, .int x3), (0, .ref (mA 0)), (1, .int p0), (3, .int x3)]) hx hb dX3_untilFailed_44 rfl hl (by decide) rfl (fun ls hl => ?_)
            refine W.widen (k := 0) (n := 0) (Nat.le_of_ble_eq_true rfl) (Nat.le_of_ble_eq_true rfl) ?_
            exact k45 _ ih x3 x3 mo31  _ _ hP hD hS _ (lv_sub hl [1, 2, 0, 3] rfl) h
  unfold wpX3_untilFailed at h
  refine lv_aload_n hx hb dX3_untilFailed_0 rfl (lv_at hl 0 rfl) ?_
  refine lv_iload_n hx hb dX3_untilFailed_1 rfl (lv_at hl 1 rfl) ?_
  refine z_RV (As := [.int p0]) (rest := []) [0, 1, 2, 3, 4, 5, 6, 7, 8, 9] C (hG.kept hS.1 hS.2.1).none hP (c_X3_state hfl hs0 D cI cB cJ mA mo p0 h) q74 v_X3_state rfl rfl rfl rfl ⟨(Nat.le_of_ble_eq_true rfl), (Nat.le_of_ble_eq_true rfl)⟩ ⟨(Nat.le_of_ble_eq_true rfl), (Nat.le_of_ble_eq_true rfl)⟩ hl.1 rfl (lv_room (Nat.le_of_ble_eq_true rfl)) dX3_untilFailed_2 (fun r2 h => ?_)
  refine lv_iconst (v := 4) hx hb dX3_untilFailed_5 (by decide) ?_
  refine lv_icmp_ne (tgt := 11) hx hb dX3_untilFailed_6 (by decide) (fun c6 => ?_) (fun c6 => ?_)
  · have h := h.2 c6
    refine lv_aload_n hx hb dX3_untilFailed_11 rfl (lv_at hl 0 rfl) ?_
    refine z_WV (As := []) (rest := []) (wr := ([] : va_W)) (wN := (fun u : MS => wM cI mA u)) [0, 1, 2, 3, 4, 5, 6, 7, 8, 9] [] [0, 1, 2, 3, 4, 5, 6, 7, 8, 9] C hG hA hP hD hS (c_X3_keep hfl hs0 D cI cB cJ mA mo h) q182 v_X3_keep rfl rfl ⟨by decide, by decide, by decide⟩ (by decide) (fun _ => rfl) rfl rfl rfl ⟨(Nat.le_of_ble_eq_true rfl), (Nat.le_of_ble_eq_true rfl)⟩ ⟨(Nat.le_of_ble_eq_true rfl), (Nat.le_of_ble_eq_true rfl)⟩ hl.1 rfl (lv_room (Nat.le_of_ble_eq_true rfl)) dX3_untilFailed_12 (fun u H locs h hP hD hS => ?_)
    obtain ⟨mo12, rfl⟩ : ∃ z, z = u := ⟨_, rfl⟩
    have hP : va_P D vwCl (wM cI mA mo12) H := hP
    have hD : va_D A (wM cI mA mo12) := hD
    refine lv_iconst (v := (-1)) hx hb dX3_untilFailed_15 (by decide) ?_
    refine lv_istore_n (lv' := [(2, .int (-1)), (0, .ref (mA 0)), (1, .int p0)]) hx hb dX3_untilFailed_16 rfl hl (by decide) rfl (fun ls hl => ?_)
    refine lv_iconst (v := 1) hx hb dX3_untilFailed_17 (by decide) ?_
    refine lv_istore_n (lv' := [(3, .int 1), (2, .int (-1)), (0, .ref (mA 0)), (1, .int p0)]) hx hb dX3_untilFailed_18 rfl hl (by decide) rfl (fun ls hl => ?_)
    refine W.widen (k := 0) (n := 0) (Nat.le_of_ble_eq_true rfl) (Nat.le_of_ble_eq_true rfl) ?_
    obtain ⟨n9, h⟩ := h
    exact k19 n9 (-1) 1 mo12  _ _ hP hD hS _ (lv_sub hl [2, 3, 1, 0] rfl) h
  · have h := h.1 c6
    refine lv_iconst (v := (-1)) hx hb dX3_untilFailed_9 (by decide) ?_
    exact zW_iret C ((-1), mo) rfl h hP hD hS (Nat.le_of_ble_eq_true rfl) (Nat.le_of_ble_eq_true rfl) dX3_untilFailed_10
def wpX3_daysUntilFailed (post : Int32 → MS → Prop) (mo : MS) (p0 : Int32) : Prop := wpX3_isDuty (fun r7 => (r7 = 0 → wpX3_no (fun r23 mo23 => post r23 mo23) (0, mo.2.1, mo.2.2.1, mo.2.2.2.1, mo.2.2.2.2.1, mo.2.2.2.2.2.1, mo.2.2.2.2.2.2.1, mo.2.2.2.2.2.2.2.1, mo.2.2.2.2.2.2.2.2.1, mo.2.2.2.2.2.2.2.2.2.1, mo.2.2.2.2.2.2.2.2.2.2.1, mo.2.2.2.2.2.2.2.2.2.2.2) 1) ∧ (¬ r7 = 0 → wpX3_untilFailed (fun r15 mo15 => post r15 mo15) (0, mo.2.1, mo.2.2.1, mo.2.2.2.1, mo.2.2.2.2.1, mo.2.2.2.2.2.1, mo.2.2.2.2.2.2.1, mo.2.2.2.2.2.2.2.1, mo.2.2.2.2.2.2.2.2.1, mo.2.2.2.2.2.2.2.2.2.1, mo.2.2.2.2.2.2.2.2.2.2.1, mo.2.2.2.2.2.2.2.2.2.2.2) p0)) (0, mo.2.1, mo.2.2.1, mo.2.2.2.1, mo.2.2.2.2.1, mo.2.2.2.2.2.1, mo.2.2.2.2.2.2.1, mo.2.2.2.2.2.2.2.1, mo.2.2.2.2.2.2.2.2.1, mo.2.2.2.2.2.2.2.2.2.1, mo.2.2.2.2.2.2.2.2.2.2.1, mo.2.2.2.2.2.2.2.2.2.2.2) p0
set_option maxHeartbeats 4000000 in
set_option maxRecDepth 100000 in
theorem c_X3_daysUntilFailed {l : Launch} (hfl : l.stackTraces = false) {s0 : State} (hs0 : zS s0) (D : va_G) (cI cB cJ : ClassId) (mA : Nat → Nat) (mo : MS) (p0 : Int32) {post : Int32 → MS → Prop} (h : wpX3_daysUntilFailed post mo p0) : zW s0 l D (zty cI cB cJ) yX3_daysUntilFailed cX3_daysUntilFailed 2 (some .int) 7 0 0 [.ref (mA 0), .int p0] (wM cI mA mo) (fun u : Int32 × MS => some (Value.int u.1)) (fun u : Int32 × MS => post u.1 u.2) (fun u : Int32 × MS => wM cI mA u.2) := by
  refine zW_intro (by decide +kernel) (Nat.le_of_ble_eq_true rfl) ?_
  intro p e s m below meth c A C hnm hA hG hP hD hS ls hl
  have C : zC D (zty cI cB cJ) p s m ([.ref (mA 0), .int p0] : List Value).toArray meth c cX3_daysUntilFailed RX3 (some .int) 2 := C
  have hx := C.1
  have hb := C.2.1
  have hts := C.2.2.1
  have hown := C.2.2.2.1
  have hml := C.2.2.2.2.2.1
  have hK := C.2.2.2.2.2.2.2
  have hl : lv_has ls 2 [(0, .ref (mA 0)), (1, .int p0)] := hl
  have hP : va_P D vwCl (wM cI mA mo) s.heap := hP
  have hD : va_D A (wM cI mA mo) := hD
  unfold wpX3_daysUntilFailed at h
  refine lv_aload_n hx hb dX3_daysUntilFailed_0 rfl (lv_at hl 0 rfl) ?_
  refine lv_iconst (v := 0) hx hb dX3_daysUntilFailed_1 (by decide) ?_
  refine z_put C f_X3_44 zt_X3 rfl rfl rfl rfl hP hD hS (q0 := 0) rfl (Nat.le_of_ble_eq_true rfl) dX3_daysUntilFailed_2 (fun H locs hP hD hS => ?_)
  have hP : va_P D vwCl (wM cI mA (0, mo.2.1, mo.2.2.1, mo.2.2.2.1, mo.2.2.2.2.1, mo.2.2.2.2.2.1, mo.2.2.2.2.2.2.1, mo.2.2.2.2.2.2.2.1, mo.2.2.2.2.2.2.2.2.1, mo.2.2.2.2.2.2.2.2.2.1, mo.2.2.2.2.2.2.2.2.2.2.1, mo.2.2.2.2.2.2.2.2.2.2.2)) H := hP
  have hD : va_D A (wM cI mA (0, mo.2.1, mo.2.2.1, mo.2.2.2.1, mo.2.2.2.2.1, mo.2.2.2.2.2.1, mo.2.2.2.2.2.2.1, mo.2.2.2.2.2.2.2.1, mo.2.2.2.2.2.2.2.2.1, mo.2.2.2.2.2.2.2.2.2.1, mo.2.2.2.2.2.2.2.2.2.2.1, mo.2.2.2.2.2.2.2.2.2.2.2)) := hD
  refine lv_aload_n hx hb dX3_daysUntilFailed_5 rfl (lv_at hl 0 rfl) ?_
  refine lv_iload_n hx hb dX3_daysUntilFailed_6 rfl (lv_at hl 1 rfl) ?_
  refine z_RV (As := [.int p0]) (rest := []) [0, 1, 2, 3, 4, 5, 6, 7, 8, 9] C (hG.kept hS.1 hS.2.1).none hP (c_X3_isDuty hfl hs0 D cI cB cJ mA (0, mo.2.1, mo.2.2.1, mo.2.2.2.1, mo.2.2.2.2.1, mo.2.2.2.2.2.1, mo.2.2.2.2.2.2.1, mo.2.2.2.2.2.2.2.1, mo.2.2.2.2.2.2.2.2.1, mo.2.2.2.2.2.2.2.2.2.1, mo.2.2.2.2.2.2.2.2.2.2.1, mo.2.2.2.2.2.2.2.2.2.2.2) p0 h) q130 v_X3_isDuty rfl rfl rfl rfl ⟨(Nat.le_of_ble_eq_true rfl), (Nat.le_of_ble_eq_true rfl)⟩ ⟨(Nat.le_of_ble_eq_true rfl), (Nat.le_of_ble_eq_true rfl)⟩ hl.1 rfl (lv_room (Nat.le_of_ble_eq_true rfl)) dX3_daysUntilFailed_7 (fun r7 h => ?_)
  refine lv_if_eq (tgt := 21) hx hb dX3_daysUntilFailed_10 (by decide) (fun c10 => ?_) (fun c10 => ?_)
  · have h := h.1 c10
    refine lv_aload_n hx hb dX3_daysUntilFailed_21 rfl (lv_at hl 0 rfl) ?_
    refine lv_iconst (v := 1) hx hb dX3_daysUntilFailed_22 (by decide) ?_
    refine z_WV (As := [.int 1]) (rest := []) (wr := ([] : va_W)) (wN := (fun u : Int32 × MS => wM cI mA u.2)) [0, 1, 2, 3, 4, 5, 6, 7, 8, 9] [] [0, 1, 2, 3, 4, 5, 6, 7, 8, 9] C hG hA hP hD hS (c_X3_no hfl hs0 D cI cB cJ mA (0, mo.2.1, mo.2.2.1, mo.2.2.2.1, mo.2.2.2.2.1, mo.2.2.2.2.2.1, mo.2.2.2.2.2.2.1, mo.2.2.2.2.2.2.2.1, mo.2.2.2.2.2.2.2.2.1, mo.2.2.2.2.2.2.2.2.2.1, mo.2.2.2.2.2.2.2.2.2.2.1, mo.2.2.2.2.2.2.2.2.2.2.2) 1 h) q122 v_X3_no rfl rfl ⟨by decide, by decide, by decide⟩ (by decide) (fun _ => rfl) rfl rfl rfl ⟨(Nat.le_of_ble_eq_true rfl), (Nat.le_of_ble_eq_true rfl)⟩ ⟨(Nat.le_of_ble_eq_true rfl), (Nat.le_of_ble_eq_true rfl)⟩ hl.1 rfl (lv_room (Nat.le_of_ble_eq_true rfl)) dX3_daysUntilFailed_23 (fun u H locs h hP hD hS => ?_)
    obtain ⟨r23, mo23⟩ := u
    have hP : va_P D vwCl (wM cI mA mo23) H := hP
    have hD : va_D A (wM cI mA mo23) := hD
    exact zW_iret C (r23, mo23) rfl h hP hD hS (Nat.le_of_ble_eq_true rfl) (Nat.le_of_ble_eq_true rfl) dX3_daysUntilFailed_26
  · have h := h.2 c10
    refine lv_aload_n hx hb dX3_daysUntilFailed_13 rfl (lv_at hl 0 rfl) ?_
    refine lv_iload_n hx hb dX3_daysUntilFailed_14 rfl (lv_at hl 1 rfl) ?_
    refine z_WV (As := [.int p0]) (rest := []) (wr := ([] : va_W)) (wN := (fun u : Int32 × MS => wM cI mA u.2)) [0, 1, 2, 3, 4, 5, 6, 7, 8, 9] [] [0, 1, 2, 3, 4, 5, 6, 7, 8, 9] C hG hA hP hD hS (c_X3_untilFailed hfl hs0 D cI cB cJ mA (0, mo.2.1, mo.2.2.1, mo.2.2.2.1, mo.2.2.2.2.1, mo.2.2.2.2.2.1, mo.2.2.2.2.2.2.1, mo.2.2.2.2.2.2.2.1, mo.2.2.2.2.2.2.2.2.1, mo.2.2.2.2.2.2.2.2.2.1, mo.2.2.2.2.2.2.2.2.2.2.1, mo.2.2.2.2.2.2.2.2.2.2.2) p0 h) q190 v_X3_untilFailed rfl rfl ⟨by decide, by decide, by decide⟩ (by decide) (fun _ => rfl) rfl rfl rfl ⟨(Nat.le_of_ble_eq_true rfl), (Nat.le_of_ble_eq_true rfl)⟩ ⟨(Nat.le_of_ble_eq_true rfl), (Nat.le_of_ble_eq_true rfl)⟩ hl.1 rfl (lv_room (Nat.le_of_ble_eq_true rfl)) dX3_daysUntilFailed_15 (fun u H locs h hP hD hS => ?_)
    obtain ⟨r15, mo15⟩ := u
    have hP : va_P D vwCl (wM cI mA mo15) H := hP
    have hD : va_D A (wM cI mA mo15) := hD
    refine lv_goto (tgt := 26) hx hb dX3_daysUntilFailed_18 (by decide) ?_
    exact zW_iret C (r15, mo15) rfl h hP hD hS (Nat.le_of_ble_eq_true rfl) (Nat.le_of_ble_eq_true rfl) dX3_daysUntilFailed_26
def wpX3_later (post : Int32 → MS → Prop) (mo : MS) (p0 : Int32) (p1 : Int32) : Prop := wpX3_keep (fun mo1 => wpX3_daysOn (fun mo6 => vp_in (2 + p0) 68 ∧ (wpX3_bringBack (fun mo19 => post (mo6.2.2.2.2.2.2.2.2.2.2.1 (2 + p0).toNatClampNeg) mo19) mo6)) mo1 p1) mo
set_option maxHeartbeats 4000000 in
set_option maxRecDepth 100000 in
theorem c_X3_later {l : Launch} (hfl : l.stackTraces = false) {s0 : State} (hs0 : zS s0) (D : va_G) (cI cB cJ : ClassId) (mA : Nat → Nat) (mo : MS) (p0 : Int32) (p1 : Int32) {post : Int32 → MS → Prop} (h : wpX3_later post mo p0 p1) : zW s0 l D (zty cI cB cJ) yX3_later cX3_later 4 (some .int) 7 0 0 [.ref (mA 0), .int p0, .int p1] (wM cI mA mo) (fun u : Int32 × MS => some (Value.int u.1)) (fun u : Int32 × MS => post u.1 u.2) (fun u : Int32 × MS => wM cI mA u.2) := by
  refine zW_intro (by decide +kernel) (Nat.le_of_ble_eq_true rfl) ?_
  intro p e s m below meth c A C hnm hA hG hP hD hS ls hl
  have C : zC D (zty cI cB cJ) p s m ([.ref (mA 0), .int p0, .int p1] : List Value).toArray meth c cX3_later RX3 (some .int) 4 := C
  have hx := C.1
  have hb := C.2.1
  have hts := C.2.2.1
  have hown := C.2.2.2.1
  have hml := C.2.2.2.2.2.1
  have hK := C.2.2.2.2.2.2.2
  have hl : lv_has ls 4 [(0, .ref (mA 0)), (1, .int p0), (2, .int p1)] := hl
  have hP : va_P D vwCl (wM cI mA mo) s.heap := hP
  have hD : va_D A (wM cI mA mo) := hD
  unfold wpX3_later at h
  refine lv_aload_n hx hb dX3_later_0 rfl (lv_at hl 0 rfl) ?_
  refine z_WV (As := []) (rest := []) (wr := ([] : va_W)) (wN := (fun u : MS => wM cI mA u)) [0, 1, 2, 3, 4, 5, 6, 7, 8, 9] [] [0, 1, 2, 3, 4, 5, 6, 7, 8, 9] C hG hA hP hD hS (c_X3_keep hfl hs0 D cI cB cJ mA mo h) q182 v_X3_keep rfl rfl ⟨by decide, by decide, by decide⟩ (by decide) (fun _ => rfl) rfl rfl rfl ⟨(Nat.le_of_ble_eq_true rfl), (Nat.le_of_ble_eq_true rfl)⟩ ⟨(Nat.le_of_ble_eq_true rfl), (Nat.le_of_ble_eq_true rfl)⟩ hl.1 rfl (lv_room (Nat.le_of_ble_eq_true rfl)) dX3_later_1 (fun u H locs h hP hD hS => ?_)
  obtain ⟨mo1, rfl⟩ : ∃ z, z = u := ⟨_, rfl⟩
  have hP : va_P D vwCl (wM cI mA mo1) H := hP
  have hD : va_D A (wM cI mA mo1) := hD
  refine lv_aload_n hx hb dX3_later_4 rfl (lv_at hl 0 rfl) ?_
  refine lv_iload_n hx hb dX3_later_5 rfl (lv_at hl 2 rfl) ?_
  refine z_WV (As := [.int p1]) (rest := []) (wr := ([] : va_W)) (wN := (fun u : MS => wM cI mA u)) [0, 1, 2, 3, 4, 5, 6, 7, 8, 9] [] [0, 1, 2, 3, 4, 5, 6, 7, 8, 9] C hG hA hP hD hS (c_X3_daysOn hfl hs0 D cI cB cJ mA mo1 p1 h) q146 v_X3_daysOn rfl rfl ⟨by decide, by decide, by decide⟩ (by decide) (fun _ => rfl) rfl rfl rfl ⟨(Nat.le_of_ble_eq_true rfl), (Nat.le_of_ble_eq_true rfl)⟩ ⟨(Nat.le_of_ble_eq_true rfl), (Nat.le_of_ble_eq_true rfl)⟩ hl.1 rfl (lv_room (Nat.le_of_ble_eq_true rfl)) dX3_later_6 (fun u H locs h hP hD hS => ?_)
  obtain ⟨mo6, rfl⟩ : ∃ z, z = u := ⟨_, rfl⟩
  have hP : va_P D vwCl (wM cI mA mo6) H := hP
  have hD : va_D A (wM cI mA mo6) := hD
  refine lv_aload_n hx hb dX3_later_9 rfl (lv_at hl 0 rfl) ?_
  refine z_get C f_X3_31 hP (q0 := 0) rfl rfl dX3_later_10 ?_
  refine lv_iconst (v := 2) hx hb dX3_later_13 (by decide) ?_
  refine lv_iload_n hx hb dX3_later_14 rfl (lv_at hl 1 rfl) ?_
  refine lv_iadd hx hb dX3_later_15 ?_
  obtain ⟨g9, h⟩ := h
  refine va_iald hx hb hK hP 8 0 rfl rfl g9 dX3_later_16 ?_
  refine lv_istore_n (lv' := [(3, .int (mo6.2.2.2.2.2.2.2.2.2.2.1 (2 + p0).toNatClampNeg)), (0, .ref (mA 0)), (1, .int p0), (2, .int p1)]) hx hb dX3_later_17 rfl hl (by decide) rfl (fun ls hl => ?_)
  refine lv_aload_n hx hb dX3_later_18 rfl (lv_at hl 1 rfl) ?_
  refine z_WV (As := []) (rest := []) (wr := ([] : va_W)) (wN := (fun u : MS => wM cI mA u)) [0, 1, 2, 3, 4, 5, 6, 7, 8, 9] [] [0, 1, 2, 3, 4, 5, 6, 7, 8, 9] C hG hA hP hD hS (c_X3_bringBack hfl hs0 D cI cB cJ mA mo6 h) q186 v_X3_bringBack rfl rfl ⟨by decide, by decide, by decide⟩ (by decide) (fun _ => rfl) rfl rfl rfl ⟨(Nat.le_of_ble_eq_true rfl), (Nat.le_of_ble_eq_true rfl)⟩ ⟨(Nat.le_of_ble_eq_true rfl), (Nat.le_of_ble_eq_true rfl)⟩ hl.1 rfl (lv_room (Nat.le_of_ble_eq_true rfl)) dX3_later_19 (fun u H locs h hP hD hS => ?_)
  obtain ⟨mo19, rfl⟩ : ∃ z, z = u := ⟨_, rfl⟩
  have hP : va_P D vwCl (wM cI mA mo19) H := hP
  have hD : va_D A (wM cI mA mo19) := hD
  refine lv_iload_n hx hb dX3_later_22 rfl (lv_at hl 0 rfl) ?_
  exact zW_iret C ((mo6.2.2.2.2.2.2.2.2.2.2.1 (2 + p0).toNatClampNeg), mo19) rfl h hP hD hS (Nat.le_of_ble_eq_true rfl) (Nat.le_of_ble_eq_true rfl) dX3_later_23
def wpX3_purseIn (post : Int32 → MS → Prop) (mo : MS) (p0 : Int32) (p1 : Int32) : Prop := wpX3_isParty (fun r7 => (r7 = 0 → wpX3_no (fun r15 mo15 => post r15 mo15) (0, mo.2.1, mo.2.2.1, mo.2.2.2.1, mo.2.2.2.2.1, mo.2.2.2.2.2.1, mo.2.2.2.2.2.2.1, mo.2.2.2.2.2.2.2.1, mo.2.2.2.2.2.2.2.2.1, mo.2.2.2.2.2.2.2.2.2.1, mo.2.2.2.2.2.2.2.2.2.2.1, mo.2.2.2.2.2.2.2.2.2.2.2) 1) ∧ (¬ r7 = 0 → wpX3_isFrom (fun r23 => (r23 = 0 → wpX3_no (fun r40 mo40 => post r40 mo40) (0, mo.2.1, mo.2.2.1, mo.2.2.2.1, mo.2.2.2.2.1, mo.2.2.2.2.2.1, mo.2.2.2.2.2.2.1, mo.2.2.2.2.2.2.2.1, mo.2.2.2.2.2.2.2.2.1, mo.2.2.2.2.2.2.2.2.2.1, mo.2.2.2.2.2.2.2.2.2.2.1, mo.2.2.2.2.2.2.2.2.2.2.2) 2) ∧ (¬ r23 = 0 → wpX3_later (fun r32 mo32 => post r32 mo32) (0, mo.2.1, mo.2.2.1, mo.2.2.2.1, mo.2.2.2.2.1, mo.2.2.2.2.2.1, mo.2.2.2.2.2.2.1, mo.2.2.2.2.2.2.2.1, mo.2.2.2.2.2.2.2.2.1, mo.2.2.2.2.2.2.2.2.2.1, mo.2.2.2.2.2.2.2.2.2.2.1, mo.2.2.2.2.2.2.2.2.2.2.2) p0 p1)) p1 1 60)) (0, mo.2.1, mo.2.2.1, mo.2.2.2.1, mo.2.2.2.2.1, mo.2.2.2.2.2.1, mo.2.2.2.2.2.2.1, mo.2.2.2.2.2.2.2.1, mo.2.2.2.2.2.2.2.2.1, mo.2.2.2.2.2.2.2.2.2.1, mo.2.2.2.2.2.2.2.2.2.2.1, mo.2.2.2.2.2.2.2.2.2.2.2) p0
set_option maxHeartbeats 4000000 in
set_option maxRecDepth 100000 in
theorem c_X3_purseIn {l : Launch} (hfl : l.stackTraces = false) {s0 : State} (hs0 : zS s0) (D : va_G) (cI cB cJ : ClassId) (mA : Nat → Nat) (mo : MS) (p0 : Int32) (p1 : Int32) {post : Int32 → MS → Prop} (h : wpX3_purseIn post mo p0 p1) : zW s0 l D (zty cI cB cJ) yX3_purseIn cX3_purseIn 3 (some .int) 8 0 0 [.ref (mA 0), .int p0, .int p1] (wM cI mA mo) (fun u : Int32 × MS => some (Value.int u.1)) (fun u : Int32 × MS => post u.1 u.2) (fun u : Int32 × MS => wM cI mA u.2) := by
  refine zW_intro (by decide +kernel) (Nat.le_of_ble_eq_true rfl) ?_
  intro p e s m below meth c A C hnm hA hG hP hD hS ls hl
  have C : zC D (zty cI cB cJ) p s m ([.ref (mA 0), .int p0, .int p1] : List Value).toArray meth c cX3_purseIn RX3 (some .int) 3 := C
  have hx := C.1
  have hb := C.2.1
  have hts := C.2.2.1
  have hown := C.2.2.2.1
  have hml := C.2.2.2.2.2.1
  have hK := C.2.2.2.2.2.2.2
  have hl : lv_has ls 3 [(0, .ref (mA 0)), (1, .int p0), (2, .int p1)] := hl
  have hP : va_P D vwCl (wM cI mA mo) s.heap := hP
  have hD : va_D A (wM cI mA mo) := hD
  unfold wpX3_purseIn at h
  refine lv_aload_n hx hb dX3_purseIn_0 rfl (lv_at hl 0 rfl) ?_
  refine lv_iconst (v := 0) hx hb dX3_purseIn_1 (by decide) ?_
  refine z_put C f_X3_44 zt_X3 rfl rfl rfl rfl hP hD hS (q0 := 0) rfl (Nat.le_of_ble_eq_true rfl) dX3_purseIn_2 (fun H locs hP hD hS => ?_)
  have hP : va_P D vwCl (wM cI mA (0, mo.2.1, mo.2.2.1, mo.2.2.2.1, mo.2.2.2.2.1, mo.2.2.2.2.2.1, mo.2.2.2.2.2.2.1, mo.2.2.2.2.2.2.2.1, mo.2.2.2.2.2.2.2.2.1, mo.2.2.2.2.2.2.2.2.2.1, mo.2.2.2.2.2.2.2.2.2.2.1, mo.2.2.2.2.2.2.2.2.2.2.2)) H := hP
  have hD : va_D A (wM cI mA (0, mo.2.1, mo.2.2.1, mo.2.2.2.1, mo.2.2.2.2.1, mo.2.2.2.2.2.1, mo.2.2.2.2.2.2.1, mo.2.2.2.2.2.2.2.1, mo.2.2.2.2.2.2.2.2.1, mo.2.2.2.2.2.2.2.2.2.1, mo.2.2.2.2.2.2.2.2.2.2.1, mo.2.2.2.2.2.2.2.2.2.2.2)) := hD
  refine lv_aload_n hx hb dX3_purseIn_5 rfl (lv_at hl 0 rfl) ?_
  refine lv_iload_n hx hb dX3_purseIn_6 rfl (lv_at hl 1 rfl) ?_
  refine z_RV (As := [.int p0]) (rest := []) [0, 1, 2, 3, 4, 5, 6, 7, 8, 9] C (hG.kept hS.1 hS.2.1).none hP (c_X3_isParty hfl hs0 D cI cB cJ mA (0, mo.2.1, mo.2.2.1, mo.2.2.2.1, mo.2.2.2.2.1, mo.2.2.2.2.2.1, mo.2.2.2.2.2.2.1, mo.2.2.2.2.2.2.2.1, mo.2.2.2.2.2.2.2.2.1, mo.2.2.2.2.2.2.2.2.2.1, mo.2.2.2.2.2.2.2.2.2.2.1, mo.2.2.2.2.2.2.2.2.2.2.2) p0 h) q126 v_X3_isParty rfl rfl rfl rfl ⟨(Nat.le_of_ble_eq_true rfl), (Nat.le_of_ble_eq_true rfl)⟩ ⟨(Nat.le_of_ble_eq_true rfl), (Nat.le_of_ble_eq_true rfl)⟩ hl.1 rfl (lv_room (Nat.le_of_ble_eq_true rfl)) dX3_purseIn_7 (fun r7 h => ?_)
  refine lv_if_ne (tgt := 19) hx hb dX3_purseIn_10 (by decide) (fun c10 => ?_) (fun c10 => ?_)
  · have h := h.2 c10
    refine lv_iload_n hx hb dX3_purseIn_19 rfl (lv_at hl 2 rfl) ?_
    refine lv_iconst (v := 1) hx hb dX3_purseIn_20 (by decide) ?_
    refine lv_bipush (v := 60) hx hb dX3_purseIn_21 (by decide) ?_
    refine z_RS (As := [.int p1, .int 1, .int 60]) (rest := []) [] C (hG.kept hS.1 hS.2.1).none hP (c_X3_isFrom hfl hs0 D cI cB cJ p1 1 60 h) q66 v_X3_isFrom rfl rfl ⟨(Nat.le_of_ble_eq_true rfl), (Nat.le_of_ble_eq_true rfl)⟩ ⟨(Nat.le_of_ble_eq_true rfl), (Nat.le_of_ble_eq_true rfl)⟩ hl.1 rfl (lv_room (Nat.le_of_ble_eq_true rfl)) dX3_purseIn_23 (fun r23 h => ?_)
    refine lv_if_eq (tgt := 38) hx hb dX3_purseIn_26 (by decide) (fun c26 => ?_) (fun c26 => ?_)
    · have h := h.1 c26
      refine lv_aload_n hx hb dX3_purseIn_38 rfl (lv_at hl 0 rfl) ?_
      refine lv_iconst (v := 2) hx hb dX3_purseIn_39 (by decide) ?_
      refine z_WV (As := [.int 2]) (rest := []) (wr := ([] : va_W)) (wN := (fun u : Int32 × MS => wM cI mA u.2)) [0, 1, 2, 3, 4, 5, 6, 7, 8, 9] [] [0, 1, 2, 3, 4, 5, 6, 7, 8, 9] C hG hA hP hD hS (c_X3_no hfl hs0 D cI cB cJ mA (0, mo.2.1, mo.2.2.1, mo.2.2.2.1, mo.2.2.2.2.1, mo.2.2.2.2.2.1, mo.2.2.2.2.2.2.1, mo.2.2.2.2.2.2.2.1, mo.2.2.2.2.2.2.2.2.1, mo.2.2.2.2.2.2.2.2.2.1, mo.2.2.2.2.2.2.2.2.2.2.1, mo.2.2.2.2.2.2.2.2.2.2.2) 2 h) q122 v_X3_no rfl rfl ⟨by decide, by decide, by decide⟩ (by decide) (fun _ => rfl) rfl rfl rfl ⟨(Nat.le_of_ble_eq_true rfl), (Nat.le_of_ble_eq_true rfl)⟩ ⟨(Nat.le_of_ble_eq_true rfl), (Nat.le_of_ble_eq_true rfl)⟩ hl.1 rfl (lv_room (Nat.le_of_ble_eq_true rfl)) dX3_purseIn_40 (fun u H locs h hP hD hS => ?_)
      obtain ⟨r40, mo40⟩ := u
      have hP : va_P D vwCl (wM cI mA mo40) H := hP
      have hD : va_D A (wM cI mA mo40) := hD
      exact zW_iret C (r40, mo40) rfl h hP hD hS (Nat.le_of_ble_eq_true rfl) (Nat.le_of_ble_eq_true rfl) dX3_purseIn_43
    · have h := h.2 c26
      refine lv_aload_n hx hb dX3_purseIn_29 rfl (lv_at hl 0 rfl) ?_
      refine lv_iload_n hx hb dX3_purseIn_30 rfl (lv_at hl 1 rfl) ?_
      refine lv_iload_n hx hb dX3_purseIn_31 rfl (lv_at hl 2 rfl) ?_
      refine z_WV (As := [.int p0, .int p1]) (rest := []) (wr := ([] : va_W)) (wN := (fun u : Int32 × MS => wM cI mA u.2)) [0, 1, 2, 3, 4, 5, 6, 7, 8, 9] [] [0, 1, 2, 3, 4, 5, 6, 7, 8, 9] C hG hA hP hD hS (c_X3_later hfl hs0 D cI cB cJ mA (0, mo.2.1, mo.2.2.1, mo.2.2.2.1, mo.2.2.2.2.1, mo.2.2.2.2.2.1, mo.2.2.2.2.2.2.1, mo.2.2.2.2.2.2.2.1, mo.2.2.2.2.2.2.2.2.1, mo.2.2.2.2.2.2.2.2.2.1, mo.2.2.2.2.2.2.2.2.2.2.1, mo.2.2.2.2.2.2.2.2.2.2.2) p0 p1 h) q194 v_X3_later rfl rfl ⟨by decide, by decide, by decide⟩ (by decide) (fun _ => rfl) rfl rfl rfl ⟨(Nat.le_of_ble_eq_true rfl), (Nat.le_of_ble_eq_true rfl)⟩ ⟨(Nat.le_of_ble_eq_true rfl), (Nat.le_of_ble_eq_true rfl)⟩ hl.1 rfl (lv_room (Nat.le_of_ble_eq_true rfl)) dX3_purseIn_32 (fun u H locs h hP hD hS => ?_)
      obtain ⟨r32, mo32⟩ := u
      have hP : va_P D vwCl (wM cI mA mo32) H := hP
      have hD : va_D A (wM cI mA mo32) := hD
      refine lv_goto (tgt := 43) hx hb dX3_purseIn_35 (by decide) ?_
      exact zW_iret C (r32, mo32) rfl h hP hD hS (Nat.le_of_ble_eq_true rfl) (Nat.le_of_ble_eq_true rfl) dX3_purseIn_43
  · have h := h.1 c10
    refine lv_aload_n hx hb dX3_purseIn_13 rfl (lv_at hl 0 rfl) ?_
    refine lv_iconst (v := 1) hx hb dX3_purseIn_14 (by decide) ?_
    refine z_WV (As := [.int 1]) (rest := []) (wr := ([] : va_W)) (wN := (fun u : Int32 × MS => wM cI mA u.2)) [0, 1, 2, 3, 4, 5, 6, 7, 8, 9] [] [0, 1, 2, 3, 4, 5, 6, 7, 8, 9] C hG hA hP hD hS (c_X3_no hfl hs0 D cI cB cJ mA (0, mo.2.1, mo.2.2.1, mo.2.2.2.1, mo.2.2.2.2.1, mo.2.2.2.2.2.1, mo.2.2.2.2.2.2.1, mo.2.2.2.2.2.2.2.1, mo.2.2.2.2.2.2.2.2.1, mo.2.2.2.2.2.2.2.2.2.1, mo.2.2.2.2.2.2.2.2.2.2.1, mo.2.2.2.2.2.2.2.2.2.2.2) 1 h) q122 v_X3_no rfl rfl ⟨by decide, by decide, by decide⟩ (by decide) (fun _ => rfl) rfl rfl rfl ⟨(Nat.le_of_ble_eq_true rfl), (Nat.le_of_ble_eq_true rfl)⟩ ⟨(Nat.le_of_ble_eq_true rfl), (Nat.le_of_ble_eq_true rfl)⟩ hl.1 rfl (lv_room (Nat.le_of_ble_eq_true rfl)) dX3_purseIn_15 (fun u H locs h hP hD hS => ?_)
    obtain ⟨r15, mo15⟩ := u
    have hP : va_P D vwCl (wM cI mA mo15) H := hP
    have hD : va_D A (wM cI mA mo15) := hD
    exact zW_iret C (r15, mo15) rfl h hP hD hS (Nat.le_of_ble_eq_true rfl) (Nat.le_of_ble_eq_true rfl) dX3_purseIn_18
def wpX3_best_b90 (post : Int32 → MS → Prop) (p0 : Int32) (K13 : Int32 → Int32 → Int32 → MS → Prop) (x2 : Int32) (x3 : Int32) (x4 : Int32) (mo_ : MS) : Prop := K13 x2 x3 (x4 + 1) mo_
def wpX3_best_b13 (post : Int32 → MS → Prop) (p0 : Int32) : Nat → Int32 → Int32 → Int32 → MS → Prop
  | 0, _, _, _, _ => False
  | n + 1, x2, x3, x4, mo_ => (mo_.2.2.1 ≤ x4 → post x2 mo_) ∧ (¬ mo_.2.2.1 ≤ x4 → vp_in x4 20 ∧ (((mo_.2.2.2.1 x4.toNatClampNeg) = p0 → wpX3_canPay (fun r36 => (r36 = 0 → wpX3_best_b90 post p0 (fun z0 z1 z2 z3 => wpX3_best_b13 post p0 n z0 z1 z2 z3) x2 x3 x4 mo_) ∧ (¬ r36 = 0 → wpX3_keep (fun mo46 => wpX3_paid (fun mo52 => wpX3_daysOn (fun mo58 => vp_in (2 + p0) 68 ∧ (wpX3_bringBack (fun mo72 => (x3 < (mo58.2.2.2.2.2.2.2.2.2.2.1 (2 + p0).toNatClampNeg) → wpX3_best_b90 post p0 (fun z0 z1 z2 z3 => wpX3_best_b13 post p0 n z0 z1 z2 z3) x4 (mo58.2.2.2.2.2.2.2.2.2.2.1 (2 + p0).toNatClampNeg) x4 mo72) ∧ (¬ x3 < (mo58.2.2.2.2.2.2.2.2.2.2.1 (2 + p0).toNatClampNeg) → wpX3_best_b90 post p0 (fun z0 z1 z2 z3 => wpX3_best_b13 post p0 n z0 z1 z2 z3) x2 x3 x4 mo72)) mo58)) mo52 60) mo46 x4) mo_)) mo_ x4) ∧ (¬ (mo_.2.2.2.1 x4.toNatClampNeg) = p0 → wpX3_best_b90 post p0 (fun z0 z1 z2 z3 => wpX3_best_b13 post p0 n z0 z1 z2 z3) x2 x3 x4 mo_)))
def wpX3_best (post : Int32 → MS → Prop) (mo : MS) (p0 : Int32) : Prop := wpX3_later (fun r6 mo6 => ∃ n13 : Nat, wpX3_best_b13 post p0 n13 (-1) r6 0 mo6) mo p0 60
set_option maxHeartbeats 4000000 in
set_option maxRecDepth 100000 in
theorem c_X3_best {l : Launch} (hfl : l.stackTraces = false) {s0 : State} (hs0 : zS s0) (D : va_G) (cI cB cJ : ClassId) (mA : Nat → Nat) (mo : MS) (p0 : Int32) {post : Int32 → MS → Prop} (h : wpX3_best post mo p0) : zW s0 l D (zty cI cB cJ) yX3_best cX3_best 6 (some .int) 8 0 0 [.ref (mA 0), .int p0] (wM cI mA mo) (fun u : Int32 × MS => some (Value.int u.1)) (fun u : Int32 × MS => post u.1 u.2) (fun u : Int32 × MS => wM cI mA u.2) := by
  refine zW_intro (by decide +kernel) (Nat.le_of_ble_eq_true rfl) ?_
  intro p e s m below meth c A C hnm hA hG hP hD hS ls hl
  have C : zC D (zty cI cB cJ) p s m ([.ref (mA 0), .int p0] : List Value).toArray meth c cX3_best RX3 (some .int) 6 := C
  have hx := C.1
  have hb := C.2.1
  have hts := C.2.2.1
  have hown := C.2.2.2.1
  have hml := C.2.2.2.2.2.1
  have hK := C.2.2.2.2.2.2.2
  have hl : lv_has ls 6 [(0, .ref (mA 0)), (1, .int p0)] := hl
  have hP : va_P D vwCl (wM cI mA mo) s.heap := hP
  have hD : va_D A (wM cI mA mo) := hD
  have k90 : ∀ (K13 : Int32 → Int32 → Int32 → MS → Prop) (hK13 : ∀ (x2 : Int32) (x3 : Int32) (x4 : Int32) (mo_ : MS) (H : Heap) (locs : List Loc), va_P D vwCl (wM cI mA mo_) H → va_D A (wM cI mA mo_) → va_S A s.heap H locs → ∀ (ls : Array Slot), lv_has ls 6 [(0, .ref (mA 0)), (1, .int p0), (2, .int x2), (3, .int x3), (4, .int x4)] → K13 x2 x3 x4 mo_ → W p l e (zr 8 0 0) s m ([.ref (mA 0), .int p0] : List Value).toArray below meth c H locs 0 0 (MQ below (zQ D (fun u : Int32 × MS => some (Value.int u.1)) (fun u : Int32 × MS => post u.1 u.2) (fun u : Int32 × MS => wM cI mA u.2) A) ([.ref (mA 0), .int p0] : List Value).toArray s 0 0 A) (F0 m 13 ls [])), ∀ (x2 : Int32) (x3 : Int32) (x4 : Int32) (mo_ : MS) (H : Heap) (locs : List Loc), va_P D vwCl (wM cI mA mo_) H → va_D A (wM cI mA mo_) → va_S A s.heap H locs → ∀ (ls : Array Slot), lv_has ls 6 [(0, .ref (mA 0)), (1, .int p0), (2, .int x2), (3, .int x3), (4, .int x4)] → wpX3_best_b90 post p0 K13 x2 x3 x4 mo_ → W p l e (zr 8 0 0) s m ([.ref (mA 0), .int p0] : List Value).toArray below meth c H locs 0 0 (MQ below (zQ D (fun u : Int32 × MS => some (Value.int u.1)) (fun u : Int32 × MS => post u.1 u.2) (fun u : Int32 × MS => wM cI mA u.2) A) ([.ref (mA 0), .int p0] : List Value).toArray s 0 0 A) (F0 m 90 ls []) := by
    intro K13 hK13
    intro x2 x3 x4 mo_ H locs hP hD hS ls hl h
    unfold wpX3_best_b90 at h
    refine lv_iinc (v := (x4 + 1)) (lv' := [(4, .int (x4 + 1)), (0, .ref (mA 0)), (1, .int p0), (2, .int x2), (3, .int x3)]) hx hb dX3_best_90 hl (k := 4) rfl (by first | rfl | decide) (by decide) rfl (fun ls hl => ?_)
    refine lv_goto (tgt := 13) hx hb dX3_best_93 (by decide) ?_
    refine W.widen (k := 0) (n := 0) (Nat.le_of_ble_eq_true rfl) (Nat.le_of_ble_eq_true rfl) ?_
    exact hK13 x2 x3 (x4 + 1) mo_  _ _ hP hD hS _ (lv_sub hl [1, 2, 3, 4, 0] rfl) h
  have k13 : ∀ (n : Nat) (x2 : Int32) (x3 : Int32) (x4 : Int32) (mo_ : MS) (H : Heap) (locs : List Loc), va_P D vwCl (wM cI mA mo_) H → va_D A (wM cI mA mo_) → va_S A s.heap H locs → ∀ (ls : Array Slot), lv_has ls 6 [(0, .ref (mA 0)), (1, .int p0), (2, .int x2), (3, .int x3), (4, .int x4)] → wpX3_best_b13 post p0 n x2 x3 x4 mo_ → W p l e (zr 8 0 0) s m ([.ref (mA 0), .int p0] : List Value).toArray below meth c H locs 0 0 (MQ below (zQ D (fun u : Int32 × MS => some (Value.int u.1)) (fun u : Int32 × MS => post u.1 u.2) (fun u : Int32 × MS => wM cI mA u.2) A) ([.ref (mA 0), .int p0] : List Value).toArray s 0 0 A) (F0 m 13 ls []) := by
    intro n
    induction n with
    | zero =>
      intro x2 x3 x4 mo_ H locs hP hD hS ls hl h
      exact h.elim
    | succ n ih =>
      intro x2 x3 x4 mo_ H locs hP hD hS ls hl h
      rw [wpX3_best_b13] at h
      refine lv_iload hx hb dX3_best_13 (lv_at hl 4 rfl) ?_
      refine lv_aload_n hx hb dX3_best_15 rfl (lv_at hl 0 rfl) ?_
      refine z_get C f_X3_55 hP (q0 := 0) rfl rfl dX3_best_16 ?_
      refine lv_icmp_ge (tgt := 96) hx hb dX3_best_19 (by decide) (fun c19 => ?_) (fun c19 => ?_)
      · have h := h.1 c19
        refine lv_iload_n hx hb dX3_best_96 rfl (lv_at hl 2 rfl) ?_
        exact zW_iret C (x2, mo_) rfl h hP hD hS (Nat.le_of_ble_eq_true rfl) (Nat.le_of_ble_eq_true rfl) dX3_best_97
      · have h := h.2 c19
        refine lv_aload_n hx hb dX3_best_22 rfl (lv_at hl 0 rfl) ?_
        refine z_get C f_X3_9 hP (q0 := 0) rfl rfl dX3_best_23 ?_
        refine lv_iload hx hb dX3_best_26 (lv_at hl 4 rfl) ?_
        obtain ⟨g9, h⟩ := h
        refine va_iald hx hb hK hP 1 0 rfl rfl g9 dX3_best_28 ?_
        refine lv_iload_n hx hb dX3_best_29 rfl (lv_at hl 1 rfl) ?_
        refine lv_icmp_ne (tgt := 90) hx hb dX3_best_30 (by decide) (fun c30 => ?_) (fun c30 => ?_)
        · have h := h.2 c30
          refine W.widen (k := 0) (n := 0) (Nat.le_of_ble_eq_true rfl) (Nat.le_of_ble_eq_true rfl) ?_
          exact k90 _ ih x2 x3 x4 mo_  _ _ hP hD hS _ (lv_sub hl [0, 1, 2, 3, 4] rfl) h
        · have h := h.1 c30
          refine lv_aload_n hx hb dX3_best_33 rfl (lv_at hl 0 rfl) ?_
          refine lv_iload hx hb dX3_best_34 (lv_at hl 4 rfl) ?_
          refine z_RV (As := [.int x4]) (rest := []) [0, 1, 2, 3, 4, 5, 6, 7, 8, 9] C (hG.kept hS.1 hS.2.1).none hP (c_X3_canPay hfl hs0 D cI cB cJ mA mo_ x4 h) q134 v_X3_canPay rfl rfl rfl rfl ⟨(Nat.le_of_ble_eq_true rfl), (Nat.le_of_ble_eq_true rfl)⟩ ⟨(Nat.le_of_ble_eq_true rfl), (Nat.le_of_ble_eq_true rfl)⟩ hl.1 rfl (lv_room (Nat.le_of_ble_eq_true rfl)) dX3_best_36 (fun r36 h => ?_)
          refine lv_if_ne (tgt := 45) hx hb dX3_best_39 (by decide) (fun c39 => ?_) (fun c39 => ?_)
          · have h := h.2 c39
            refine lv_aload_n hx hb dX3_best_45 rfl (lv_at hl 0 rfl) ?_
            refine z_WV (As := []) (rest := []) (wr := ([] : va_W)) (wN := (fun u : MS => wM cI mA u)) [0, 1, 2, 3, 4, 5, 6, 7, 8, 9] [] [0, 1, 2, 3, 4, 5, 6, 7, 8, 9] C hG hA hP hD hS (c_X3_keep hfl hs0 D cI cB cJ mA mo_ h) q182 v_X3_keep rfl rfl ⟨by decide, by decide, by decide⟩ (by decide) (fun _ => rfl) rfl rfl rfl ⟨(Nat.le_of_ble_eq_true rfl), (Nat.le_of_ble_eq_true rfl)⟩ ⟨(Nat.le_of_ble_eq_true rfl), (Nat.le_of_ble_eq_true rfl)⟩ hl.1 rfl (lv_room (Nat.le_of_ble_eq_true rfl)) dX3_best_46 (fun u H locs h hP hD hS => ?_)
            obtain ⟨mo46, rfl⟩ : ∃ z, z = u := ⟨_, rfl⟩
            have hP : va_P D vwCl (wM cI mA mo46) H := hP
            have hD : va_D A (wM cI mA mo46) := hD
            refine lv_aload_n hx hb dX3_best_49 rfl (lv_at hl 0 rfl) ?_
            refine lv_iload hx hb dX3_best_50 (lv_at hl 4 rfl) ?_
            refine z_WV (As := [.int x4]) (rest := []) (wr := ([] : va_W)) (wN := (fun u : MS => wM cI mA u)) [0, 1, 2, 3, 4, 5, 6, 7, 8, 9] [] [0, 1, 2, 3, 4, 5, 6, 7, 8, 9] C hG hA hP hD hS (c_X3_paid hfl hs0 D cI cB cJ mA mo46 x4 h) q138 v_X3_paid rfl rfl ⟨by decide, by decide, by decide⟩ (by decide) (fun _ => rfl) rfl rfl rfl ⟨(Nat.le_of_ble_eq_true rfl), (Nat.le_of_ble_eq_true rfl)⟩ ⟨(Nat.le_of_ble_eq_true rfl), (Nat.le_of_ble_eq_true rfl)⟩ hl.1 rfl (lv_room (Nat.le_of_ble_eq_true rfl)) dX3_best_52 (fun u H locs h hP hD hS => ?_)
            obtain ⟨mo52, rfl⟩ : ∃ z, z = u := ⟨_, rfl⟩
            have hP : va_P D vwCl (wM cI mA mo52) H := hP
            have hD : va_D A (wM cI mA mo52) := hD
            refine lv_aload_n hx hb dX3_best_55 rfl (lv_at hl 0 rfl) ?_
            refine lv_bipush (v := 60) hx hb dX3_best_56 (by decide) ?_
            refine z_WV (As := [.int 60]) (rest := []) (wr := ([] : va_W)) (wN := (fun u : MS => wM cI mA u)) [0, 1, 2, 3, 4, 5, 6, 7, 8, 9] [] [0, 1, 2, 3, 4, 5, 6, 7, 8, 9] C hG hA hP hD hS (c_X3_daysOn hfl hs0 D cI cB cJ mA mo52 60 h) q146 v_X3_daysOn rfl rfl ⟨by decide, by decide, by decide⟩ (by decide) (fun _ => rfl) rfl rfl rfl ⟨(Nat.le_of_ble_eq_true rfl), (Nat.le_of_ble_eq_true rfl)⟩ ⟨(Nat.le_of_ble_eq_true rfl), (Nat.le_of_ble_eq_true rfl)⟩ hl.1 rfl (lv_room (Nat.le_of_ble_eq_true rfl)) dX3_best_58 (fun u H locs h hP hD hS => ?_)
            obtain ⟨mo58, rfl⟩ : ∃ z, z = u := ⟨_, rfl⟩
            have hP : va_P D vwCl (wM cI mA mo58) H := hP
            have hD : va_D A (wM cI mA mo58) := hD
            refine lv_aload_n hx hb dX3_best_61 rfl (lv_at hl 0 rfl) ?_
            refine z_get C f_X3_31 hP (q0 := 0) rfl rfl dX3_best_62 ?_
            refine lv_iconst (v := 2) hx hb dX3_best_65 (by decide) ?_
            refine lv_iload_n hx hb dX3_best_66 rfl (lv_at hl 1 rfl) ?_
            refine lv_iadd hx hb dX3_best_67 ?_
            obtain ⟨g9, h⟩ := h
            refine va_iald hx hb hK hP 8 0 rfl rfl g9 dX3_best_68 ?_
            refine lv_istore (lv' := [(5, .int (mo58.2.2.2.2.2.2.2.2.2.2.1 (2 + p0).toNatClampNeg)), (0, .ref (mA 0)), (1, .int p0), (2, .int x2), (3, .int x3), (4, .int x4)]) hx hb dX3_best_69 hl (by decide) rfl (fun ls hl => ?_)
            refine lv_aload_n hx hb dX3_best_71 rfl (lv_at hl 1 rfl) ?_
            refine z_WV (As := []) (rest := []) (wr := ([] : va_W)) (wN := (fun u : MS => wM cI mA u)) [0, 1, 2, 3, 4, 5, 6, 7, 8, 9] [] [0, 1, 2, 3, 4, 5, 6, 7, 8, 9] C hG hA hP hD hS (c_X3_bringBack hfl hs0 D cI cB cJ mA mo58 h) q186 v_X3_bringBack rfl rfl ⟨by decide, by decide, by decide⟩ (by decide) (fun _ => rfl) rfl rfl rfl ⟨(Nat.le_of_ble_eq_true rfl), (Nat.le_of_ble_eq_true rfl)⟩ ⟨(Nat.le_of_ble_eq_true rfl), (Nat.le_of_ble_eq_true rfl)⟩ hl.1 rfl (lv_room (Nat.le_of_ble_eq_true rfl)) dX3_best_72 (fun u H locs h hP hD hS => ?_)
            obtain ⟨mo72, rfl⟩ : ∃ z, z = u := ⟨_, rfl⟩
            have hP : va_P D vwCl (wM cI mA mo72) H := hP
            have hD : va_D A (wM cI mA mo72) := hD
            refine lv_iload hx hb dX3_best_75 (lv_at hl 0 rfl) ?_
            refine lv_iload_n hx hb dX3_best_77 rfl (lv_at hl 4 rfl) ?_
            refine lv_icmp_gt (tgt := 84) hx hb dX3_best_78 (by decide) (fun c78 => ?_) (fun c78 => ?_)
            · have h := h.1 c78
              refine lv_iload hx hb dX3_best_84 (lv_at hl 5 rfl) ?_
              refine lv_istore_n (lv' := [(2, .int x4), (5, .int (mo58.2.2.2.2.2.2.2.2.2.2.1 (2 + p0).toNatClampNeg)), (0, .ref (mA 0)), (1, .int p0), (3, .int x3), (4, .int x4)]) hx hb dX3_best_86 rfl hl (by decide) rfl (fun ls hl => ?_)
              refine lv_iload hx hb dX3_best_87 (lv_at hl 1 rfl) ?_
              refine lv_istore_n (lv' := [(3, .int (mo58.2.2.2.2.2.2.2.2.2.2.1 (2 + p0).toNatClampNeg)), (2, .int x4), (5, .int (mo58.2.2.2.2.2.2.2.2.2.2.1 (2 + p0).toNatClampNeg)), (0, .ref (mA 0)), (1, .int p0), (4, .int x4)]) hx hb dX3_best_89 rfl hl (by decide) rfl (fun ls hl => ?_)
              refine W.widen (k := 0) (n := 0) (Nat.le_of_ble_eq_true rfl) (Nat.le_of_ble_eq_true rfl) ?_
              exact k90 _ ih x4 (mo58.2.2.2.2.2.2.2.2.2.2.1 (2 + p0).toNatClampNeg) x4 mo72  _ _ hP hD hS _ (lv_sub hl [3, 4, 1, 0, 5] rfl) h
            · have h := h.2 c78
              refine lv_goto (tgt := 90) hx hb dX3_best_81 (by decide) ?_
              refine W.widen (k := 0) (n := 0) (Nat.le_of_ble_eq_true rfl) (Nat.le_of_ble_eq_true rfl) ?_
              exact k90 _ ih x2 x3 x4 mo72  _ _ hP hD hS _ (lv_sub hl [1, 2, 3, 4, 5] rfl) h
          · have h := h.1 c39
            refine lv_goto (tgt := 90) hx hb dX3_best_42 (by decide) ?_
            refine W.widen (k := 0) (n := 0) (Nat.le_of_ble_eq_true rfl) (Nat.le_of_ble_eq_true rfl) ?_
            exact k90 _ ih x2 x3 x4 mo_  _ _ hP hD hS _ (lv_sub hl [0, 1, 2, 3, 4] rfl) h
  unfold wpX3_best at h
  refine lv_iconst (v := (-1)) hx hb dX3_best_0 (by decide) ?_
  refine lv_istore_n (lv' := [(2, .int (-1)), (0, .ref (mA 0)), (1, .int p0)]) hx hb dX3_best_1 rfl hl (by decide) rfl (fun ls hl => ?_)
  refine lv_aload_n hx hb dX3_best_2 rfl (lv_at hl 1 rfl) ?_
  refine lv_iload_n hx hb dX3_best_3 rfl (lv_at hl 2 rfl) ?_
  refine lv_bipush (v := 60) hx hb dX3_best_4 (by decide) ?_
  refine z_WV (As := [.int p0, .int 60]) (rest := []) (wr := ([] : va_W)) (wN := (fun u : Int32 × MS => wM cI mA u.2)) [0, 1, 2, 3, 4, 5, 6, 7, 8, 9] [] [0, 1, 2, 3, 4, 5, 6, 7, 8, 9] C hG hA hP hD hS (c_X3_later hfl hs0 D cI cB cJ mA mo p0 60 h) q194 v_X3_later rfl rfl ⟨by decide, by decide, by decide⟩ (by decide) (fun _ => rfl) rfl rfl rfl ⟨(Nat.le_of_ble_eq_true rfl), (Nat.le_of_ble_eq_true rfl)⟩ ⟨(Nat.le_of_ble_eq_true rfl), (Nat.le_of_ble_eq_true rfl)⟩ hl.1 rfl (lv_room (Nat.le_of_ble_eq_true rfl)) dX3_best_6 (fun u H locs h hP hD hS => ?_)
  obtain ⟨r6, mo6⟩ := u
  have hP : va_P D vwCl (wM cI mA mo6) H := hP
  have hD : va_D A (wM cI mA mo6) := hD
  refine lv_istore_n (lv' := [(3, .int r6), (2, .int (-1)), (0, .ref (mA 0)), (1, .int p0)]) hx hb dX3_best_9 rfl hl (by decide) rfl (fun ls hl => ?_)
  refine lv_iconst (v := 0) hx hb dX3_best_10 (by decide) ?_
  refine lv_istore (lv' := [(4, .int 0), (3, .int r6), (2, .int (-1)), (0, .ref (mA 0)), (1, .int p0)]) hx hb dX3_best_11 hl (by decide) rfl (fun ls hl => ?_)
  refine W.widen (k := 0) (n := 0) (Nat.le_of_ble_eq_true rfl) (Nat.le_of_ble_eq_true rfl) ?_
  obtain ⟨n9, h⟩ := h
  exact k13 n9 (-1) r6 0 mo6  _ _ hP hD hS _ (lv_sub hl [3, 4, 2, 1, 0] rfl) h
def wpX3_bestToPay (post : Int32 → MS → Prop) (mo : MS) (p0 : Int32) : Prop := wpX3_isParty (fun r7 => (r7 = 0 → wpX3_no (fun r23 mo23 => post r23 mo23) (0, mo.2.1, mo.2.2.1, mo.2.2.2.1, mo.2.2.2.2.1, mo.2.2.2.2.2.1, mo.2.2.2.2.2.2.1, mo.2.2.2.2.2.2.2.1, mo.2.2.2.2.2.2.2.2.1, mo.2.2.2.2.2.2.2.2.2.1, mo.2.2.2.2.2.2.2.2.2.2.1, mo.2.2.2.2.2.2.2.2.2.2.2) 1) ∧ (¬ r7 = 0 → wpX3_best (fun r15 mo15 => post r15 mo15) (0, mo.2.1, mo.2.2.1, mo.2.2.2.1, mo.2.2.2.2.1, mo.2.2.2.2.2.1, mo.2.2.2.2.2.2.1, mo.2.2.2.2.2.2.2.1, mo.2.2.2.2.2.2.2.2.1, mo.2.2.2.2.2.2.2.2.2.1, mo.2.2.2.2.2.2.2.2.2.2.1, mo.2.2.2.2.2.2.2.2.2.2.2) p0)) (0, mo.2.1, mo.2.2.1, mo.2.2.2.1, mo.2.2.2.2.1, mo.2.2.2.2.2.1, mo.2.2.2.2.2.2.1, mo.2.2.2.2.2.2.2.1, mo.2.2.2.2.2.2.2.2.1, mo.2.2.2.2.2.2.2.2.2.1, mo.2.2.2.2.2.2.2.2.2.2.1, mo.2.2.2.2.2.2.2.2.2.2.2) p0
set_option maxHeartbeats 4000000 in
set_option maxRecDepth 100000 in
theorem c_X3_bestToPay {l : Launch} (hfl : l.stackTraces = false) {s0 : State} (hs0 : zS s0) (D : va_G) (cI cB cJ : ClassId) (mA : Nat → Nat) (mo : MS) (p0 : Int32) {post : Int32 → MS → Prop} (h : wpX3_bestToPay post mo p0) : zW s0 l D (zty cI cB cJ) yX3_bestToPay cX3_bestToPay 2 (some .int) 9 0 0 [.ref (mA 0), .int p0] (wM cI mA mo) (fun u : Int32 × MS => some (Value.int u.1)) (fun u : Int32 × MS => post u.1 u.2) (fun u : Int32 × MS => wM cI mA u.2) := by
  refine zW_intro (by decide +kernel) (Nat.le_of_ble_eq_true rfl) ?_
  intro p e s m below meth c A C hnm hA hG hP hD hS ls hl
  have C : zC D (zty cI cB cJ) p s m ([.ref (mA 0), .int p0] : List Value).toArray meth c cX3_bestToPay RX3 (some .int) 2 := C
  have hx := C.1
  have hb := C.2.1
  have hts := C.2.2.1
  have hown := C.2.2.2.1
  have hml := C.2.2.2.2.2.1
  have hK := C.2.2.2.2.2.2.2
  have hl : lv_has ls 2 [(0, .ref (mA 0)), (1, .int p0)] := hl
  have hP : va_P D vwCl (wM cI mA mo) s.heap := hP
  have hD : va_D A (wM cI mA mo) := hD
  unfold wpX3_bestToPay at h
  refine lv_aload_n hx hb dX3_bestToPay_0 rfl (lv_at hl 0 rfl) ?_
  refine lv_iconst (v := 0) hx hb dX3_bestToPay_1 (by decide) ?_
  refine z_put C f_X3_44 zt_X3 rfl rfl rfl rfl hP hD hS (q0 := 0) rfl (Nat.le_of_ble_eq_true rfl) dX3_bestToPay_2 (fun H locs hP hD hS => ?_)
  have hP : va_P D vwCl (wM cI mA (0, mo.2.1, mo.2.2.1, mo.2.2.2.1, mo.2.2.2.2.1, mo.2.2.2.2.2.1, mo.2.2.2.2.2.2.1, mo.2.2.2.2.2.2.2.1, mo.2.2.2.2.2.2.2.2.1, mo.2.2.2.2.2.2.2.2.2.1, mo.2.2.2.2.2.2.2.2.2.2.1, mo.2.2.2.2.2.2.2.2.2.2.2)) H := hP
  have hD : va_D A (wM cI mA (0, mo.2.1, mo.2.2.1, mo.2.2.2.1, mo.2.2.2.2.1, mo.2.2.2.2.2.1, mo.2.2.2.2.2.2.1, mo.2.2.2.2.2.2.2.1, mo.2.2.2.2.2.2.2.2.1, mo.2.2.2.2.2.2.2.2.2.1, mo.2.2.2.2.2.2.2.2.2.2.1, mo.2.2.2.2.2.2.2.2.2.2.2)) := hD
  refine lv_aload_n hx hb dX3_bestToPay_5 rfl (lv_at hl 0 rfl) ?_
  refine lv_iload_n hx hb dX3_bestToPay_6 rfl (lv_at hl 1 rfl) ?_
  refine z_RV (As := [.int p0]) (rest := []) [0, 1, 2, 3, 4, 5, 6, 7, 8, 9] C (hG.kept hS.1 hS.2.1).none hP (c_X3_isParty hfl hs0 D cI cB cJ mA (0, mo.2.1, mo.2.2.1, mo.2.2.2.1, mo.2.2.2.2.1, mo.2.2.2.2.2.1, mo.2.2.2.2.2.2.1, mo.2.2.2.2.2.2.2.1, mo.2.2.2.2.2.2.2.2.1, mo.2.2.2.2.2.2.2.2.2.1, mo.2.2.2.2.2.2.2.2.2.2.1, mo.2.2.2.2.2.2.2.2.2.2.2) p0 h) q126 v_X3_isParty rfl rfl rfl rfl ⟨(Nat.le_of_ble_eq_true rfl), (Nat.le_of_ble_eq_true rfl)⟩ ⟨(Nat.le_of_ble_eq_true rfl), (Nat.le_of_ble_eq_true rfl)⟩ hl.1 rfl (lv_room (Nat.le_of_ble_eq_true rfl)) dX3_bestToPay_7 (fun r7 h => ?_)
  refine lv_if_eq (tgt := 21) hx hb dX3_bestToPay_10 (by decide) (fun c10 => ?_) (fun c10 => ?_)
  · have h := h.1 c10
    refine lv_aload_n hx hb dX3_bestToPay_21 rfl (lv_at hl 0 rfl) ?_
    refine lv_iconst (v := 1) hx hb dX3_bestToPay_22 (by decide) ?_
    refine z_WV (As := [.int 1]) (rest := []) (wr := ([] : va_W)) (wN := (fun u : Int32 × MS => wM cI mA u.2)) [0, 1, 2, 3, 4, 5, 6, 7, 8, 9] [] [0, 1, 2, 3, 4, 5, 6, 7, 8, 9] C hG hA hP hD hS (c_X3_no hfl hs0 D cI cB cJ mA (0, mo.2.1, mo.2.2.1, mo.2.2.2.1, mo.2.2.2.2.1, mo.2.2.2.2.2.1, mo.2.2.2.2.2.2.1, mo.2.2.2.2.2.2.2.1, mo.2.2.2.2.2.2.2.2.1, mo.2.2.2.2.2.2.2.2.2.1, mo.2.2.2.2.2.2.2.2.2.2.1, mo.2.2.2.2.2.2.2.2.2.2.2) 1 h) q122 v_X3_no rfl rfl ⟨by decide, by decide, by decide⟩ (by decide) (fun _ => rfl) rfl rfl rfl ⟨(Nat.le_of_ble_eq_true rfl), (Nat.le_of_ble_eq_true rfl)⟩ ⟨(Nat.le_of_ble_eq_true rfl), (Nat.le_of_ble_eq_true rfl)⟩ hl.1 rfl (lv_room (Nat.le_of_ble_eq_true rfl)) dX3_bestToPay_23 (fun u H locs h hP hD hS => ?_)
    obtain ⟨r23, mo23⟩ := u
    have hP : va_P D vwCl (wM cI mA mo23) H := hP
    have hD : va_D A (wM cI mA mo23) := hD
    exact zW_iret C (r23, mo23) rfl h hP hD hS (Nat.le_of_ble_eq_true rfl) (Nat.le_of_ble_eq_true rfl) dX3_bestToPay_26
  · have h := h.2 c10
    refine lv_aload_n hx hb dX3_bestToPay_13 rfl (lv_at hl 0 rfl) ?_
    refine lv_iload_n hx hb dX3_bestToPay_14 rfl (lv_at hl 1 rfl) ?_
    refine z_WV (As := [.int p0]) (rest := []) (wr := ([] : va_W)) (wN := (fun u : Int32 × MS => wM cI mA u.2)) [0, 1, 2, 3, 4, 5, 6, 7, 8, 9] [] [0, 1, 2, 3, 4, 5, 6, 7, 8, 9] C hG hA hP hD hS (c_X3_best hfl hs0 D cI cB cJ mA (0, mo.2.1, mo.2.2.1, mo.2.2.2.1, mo.2.2.2.2.1, mo.2.2.2.2.2.1, mo.2.2.2.2.2.2.1, mo.2.2.2.2.2.2.2.1, mo.2.2.2.2.2.2.2.2.1, mo.2.2.2.2.2.2.2.2.2.1, mo.2.2.2.2.2.2.2.2.2.2.1, mo.2.2.2.2.2.2.2.2.2.2.2) p0 h) q198 v_X3_best rfl rfl ⟨by decide, by decide, by decide⟩ (by decide) (fun _ => rfl) rfl rfl rfl ⟨(Nat.le_of_ble_eq_true rfl), (Nat.le_of_ble_eq_true rfl)⟩ ⟨(Nat.le_of_ble_eq_true rfl), (Nat.le_of_ble_eq_true rfl)⟩ hl.1 rfl (lv_room (Nat.le_of_ble_eq_true rfl)) dX3_bestToPay_15 (fun u H locs h hP hD hS => ?_)
    obtain ⟨r15, mo15⟩ := u
    have hP : va_P D vwCl (wM cI mA mo15) H := hP
    have hD : va_D A (wM cI mA mo15) := hD
    refine lv_goto (tgt := 26) hx hb dX3_bestToPay_18 (by decide) ?_
    exact zW_iret C (r15, mo15) rfl h hP hD hS (Nat.le_of_ble_eq_true rfl) (Nat.le_of_ble_eq_true rfl) dX3_bestToPay_26
def wpX3_meanPurse_b9 (post : UInt64 → MS → Prop) : Nat → Int32 → Int32 → MS → Prop
  | 0, _, _, _ => False
  | n + 1, x1, x2, mo_ => (mo_.2.1 ≤ x2 → (mo_.2.1 = 0 → post 0 mo_) ∧ (¬ mo_.2.1 = 0 → vf_n64 (FP.ddiv (FP.i2d x1) (FP.i2d mo_.2.1)) ∧ (post (FP.ddiv (FP.i2d x1) (FP.i2d mo_.2.1)) mo_))) ∧ (¬ mo_.2.1 ≤ x2 → vp_in (2 + x2) 68 ∧ (wpX3_meanPurse_b9 post n (x1 + (mo_.2.2.2.2.2.2.2.2.2.2.1 (2 + x2).toNatClampNeg)) (x2 + 1) mo_))
def wpX3_meanPurse (post : UInt64 → MS → Prop) (mo : MS) : Prop := ∃ n9 : Nat, wpX3_meanPurse_b9 post n9 0 0 (0, mo.2.1, mo.2.2.1, mo.2.2.2.1, mo.2.2.2.2.1, mo.2.2.2.2.2.1, mo.2.2.2.2.2.2.1, mo.2.2.2.2.2.2.2.1, mo.2.2.2.2.2.2.2.2.1, mo.2.2.2.2.2.2.2.2.2.1, mo.2.2.2.2.2.2.2.2.2.2.1, mo.2.2.2.2.2.2.2.2.2.2.2)
set_option maxHeartbeats 4000000 in
set_option maxRecDepth 100000 in
theorem c_X3_meanPurse {l : Launch} (hfl : l.stackTraces = false) {s0 : State} (hs0 : zS s0) (D : va_G) (cI cB cJ : ClassId) (mA : Nat → Nat) (mo : MS) {post : UInt64 → MS → Prop} (h : wpX3_meanPurse post mo) : zW s0 l D (zty cI cB cJ) yX3_meanPurse cX3_meanPurse 3 (some .double) 1 0 0 [.ref (mA 0)] (wM cI mA mo) (fun u : UInt64 × MS => some (Value.double u.1)) (fun u : UInt64 × MS => post u.1 u.2) (fun u : UInt64 × MS => wM cI mA u.2) := by
  refine zW_intro (by decide +kernel) (Nat.le_of_ble_eq_true rfl) ?_
  intro p e s m below meth c A C hnm hA hG hP hD hS ls hl
  have C : zC D (zty cI cB cJ) p s m ([.ref (mA 0)] : List Value).toArray meth c cX3_meanPurse RX3 (some .double) 3 := C
  have hx := C.1
  have hb := C.2.1
  have hts := C.2.2.1
  have hown := C.2.2.2.1
  have hml := C.2.2.2.2.2.1
  have hK := C.2.2.2.2.2.2.2
  have hl : lv_has ls 3 [(0, .ref (mA 0))] := hl
  have hP : va_P D vwCl (wM cI mA mo) s.heap := hP
  have hD : va_D A (wM cI mA mo) := hD
  have k9 : ∀ (n : Nat) (x1 : Int32) (x2 : Int32) (mo_ : MS) (H : Heap) (locs : List Loc), va_P D vwCl (wM cI mA mo_) H → va_D A (wM cI mA mo_) → va_S A s.heap H locs → ∀ (ls : Array Slot), lv_has ls 3 [(0, .ref (mA 0)), (1, .int x1), (2, .int x2)] → wpX3_meanPurse_b9 post n x1 x2 mo_ → W p l e (zr 1 0 0) s m ([.ref (mA 0)] : List Value).toArray below meth c H locs 0 0 (MQ below (zQ D (fun u : UInt64 × MS => some (Value.double u.1)) (fun u : UInt64 × MS => post u.1 u.2) (fun u : UInt64 × MS => wM cI mA u.2) A) ([.ref (mA 0)] : List Value).toArray s 0 0 A) (F0 m 9 ls []) := by
    intro n
    induction n with
    | zero =>
      intro x1 x2 mo_ H locs hP hD hS ls hl h
      exact h.elim
    | succ n ih =>
      intro x1 x2 mo_ H locs hP hD hS ls hl h
      rw [wpX3_meanPurse_b9] at h
      refine lv_iload_n hx hb dX3_meanPurse_9 rfl (lv_at hl 2 rfl) ?_
      refine lv_aload_n hx hb dX3_meanPurse_10 rfl (lv_at hl 0 rfl) ?_
      refine z_get C f_X3_48 hP (q0 := 0) rfl rfl dX3_meanPurse_11 ?_
      refine lv_icmp_ge (tgt := 34) hx hb dX3_meanPurse_14 (by decide) (fun c14 => ?_) (fun c14 => ?_)
      · have h := h.1 c14
        refine lv_aload_n hx hb dX3_meanPurse_34 rfl (lv_at hl 0 rfl) ?_
        refine z_get C f_X3_48 hP (q0 := 0) rfl rfl dX3_meanPurse_35 ?_
        refine lv_if_ne (tgt := 45) hx hb dX3_meanPurse_38 (by decide) (fun c38 => ?_) (fun c38 => ?_)
        · have h := h.2 c38
          refine lv_iload_n hx hb dX3_meanPurse_45 rfl (lv_at hl 1 rfl) ?_
          refine lv_i2d hx hb dX3_meanPurse_46 ?_
          refine lv_aload_n hx hb dX3_meanPurse_47 rfl (lv_at hl 0 rfl) ?_
          refine z_get C f_X3_48 hP (q0 := 0) rfl rfl dX3_meanPurse_48 ?_
          refine lv_i2d hx hb dX3_meanPurse_51 ?_
          obtain ⟨g9, h⟩ := h
          refine lv_ddiv hx hb dX3_meanPurse_52 g9 ?_
          exact zW_dret C ((FP.ddiv (FP.i2d x1) (FP.i2d mo_.2.1)), mo_) rfl h hP hD hS (Nat.le_of_ble_eq_true rfl) (Nat.le_of_ble_eq_true rfl) dX3_meanPurse_53
        · have h := h.1 c38
          refine lv_dconst0 hx hb dX3_meanPurse_41 ?_
          refine lv_goto (tgt := 53) hx hb dX3_meanPurse_42 (by decide) ?_
          exact zW_dret C (0, mo_) rfl h hP hD hS (Nat.le_of_ble_eq_true rfl) (Nat.le_of_ble_eq_true rfl) dX3_meanPurse_53
      · have h := h.2 c14
        refine lv_iload_n hx hb dX3_meanPurse_17 rfl (lv_at hl 1 rfl) ?_
        refine lv_aload_n hx hb dX3_meanPurse_18 rfl (lv_at hl 0 rfl) ?_
        refine z_get C f_X3_31 hP (q0 := 0) rfl rfl dX3_meanPurse_19 ?_
        refine lv_iconst (v := 2) hx hb dX3_meanPurse_22 (by decide) ?_
        refine lv_iload_n hx hb dX3_meanPurse_23 rfl (lv_at hl 2 rfl) ?_
        refine lv_iadd hx hb dX3_meanPurse_24 ?_
        obtain ⟨g9, h⟩ := h
        refine va_iald hx hb hK hP 8 0 rfl rfl g9 dX3_meanPurse_25 ?_
        refine lv_iadd hx hb dX3_meanPurse_26 ?_
        refine lv_istore_n (lv' := [(1, .int (x1 + (mo_.2.2.2.2.2.2.2.2.2.2.1 (2 + x2).toNatClampNeg))), (0, .ref (mA 0)), (2, .int x2)]) hx hb dX3_meanPurse_27 rfl hl (by decide) rfl (fun ls hl => ?_)
        refine lv_iinc (v := (x2 + 1)) (lv' := [(2, .int (x2 + 1)), (1, .int (x1 + (mo_.2.2.2.2.2.2.2.2.2.2.1 (2 + x2).toNatClampNeg))), (0, .ref (mA 0))]) hx hb dX3_meanPurse_28 hl (k := 2) rfl (by first | rfl | decide) (by decide) rfl (fun ls hl => ?_)
        refine lv_goto (tgt := 9) hx hb dX3_meanPurse_31 (by decide) ?_
        refine W.widen (k := 0) (n := 0) (Nat.le_of_ble_eq_true rfl) (Nat.le_of_ble_eq_true rfl) ?_
        exact ih (x1 + (mo_.2.2.2.2.2.2.2.2.2.2.1 (2 + x2).toNatClampNeg)) (x2 + 1) mo_  _ _ hP hD hS _ (lv_sub hl [2, 1, 0] rfl) h
  unfold wpX3_meanPurse at h
  refine lv_aload_n hx hb dX3_meanPurse_0 rfl (lv_at hl 0 rfl) ?_
  refine lv_iconst (v := 0) hx hb dX3_meanPurse_1 (by decide) ?_
  refine z_put C f_X3_44 zt_X3 rfl rfl rfl rfl hP hD hS (q0 := 0) rfl (Nat.le_of_ble_eq_true rfl) dX3_meanPurse_2 (fun H locs hP hD hS => ?_)
  have hP : va_P D vwCl (wM cI mA (0, mo.2.1, mo.2.2.1, mo.2.2.2.1, mo.2.2.2.2.1, mo.2.2.2.2.2.1, mo.2.2.2.2.2.2.1, mo.2.2.2.2.2.2.2.1, mo.2.2.2.2.2.2.2.2.1, mo.2.2.2.2.2.2.2.2.2.1, mo.2.2.2.2.2.2.2.2.2.2.1, mo.2.2.2.2.2.2.2.2.2.2.2)) H := hP
  have hD : va_D A (wM cI mA (0, mo.2.1, mo.2.2.1, mo.2.2.2.1, mo.2.2.2.2.1, mo.2.2.2.2.2.1, mo.2.2.2.2.2.2.1, mo.2.2.2.2.2.2.2.1, mo.2.2.2.2.2.2.2.2.1, mo.2.2.2.2.2.2.2.2.2.1, mo.2.2.2.2.2.2.2.2.2.2.1, mo.2.2.2.2.2.2.2.2.2.2.2)) := hD
  refine lv_iconst (v := 0) hx hb dX3_meanPurse_5 (by decide) ?_
  refine lv_istore_n (lv' := [(1, .int 0), (0, .ref (mA 0))]) hx hb dX3_meanPurse_6 rfl hl (by decide) rfl (fun ls hl => ?_)
  refine lv_iconst (v := 0) hx hb dX3_meanPurse_7 (by decide) ?_
  refine lv_istore_n (lv' := [(2, .int 0), (1, .int 0), (0, .ref (mA 0))]) hx hb dX3_meanPurse_8 rfl hl (by decide) rfl (fun ls hl => ?_)
  refine W.widen (k := 0) (n := 0) (Nat.le_of_ble_eq_true rfl) (Nat.le_of_ble_eq_true rfl) ?_
  obtain ⟨n9, h⟩ := h
  exact k9 n9 0 0 (0, mo.2.1, mo.2.2.1, mo.2.2.2.1, mo.2.2.2.2.1, mo.2.2.2.2.2.1, mo.2.2.2.2.2.2.1, mo.2.2.2.2.2.2.2.1, mo.2.2.2.2.2.2.2.2.1, mo.2.2.2.2.2.2.2.2.2.1, mo.2.2.2.2.2.2.2.2.2.2.1, mo.2.2.2.2.2.2.2.2.2.2.2)  _ _ hP hD hS _ (lv_sub hl [2, 1, 0] rfl) h

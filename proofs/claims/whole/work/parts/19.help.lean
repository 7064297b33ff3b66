/-! THE LAW'S HELPERS -/
def wsH_ (y : MethodName) (c : ByteArray) (n : Nat) (r : Option FieldType) (hh : List (Nat × Nat × Nat × Nat)) : List Cond := .codeWith y c n r hh :: lw_all
/-- a method with handlers, of which nothing comes out thrown -/
def zWH (s0 : State) (l : Launch) (D : va_G) (tys : List (ClassId × FieldType)) (y : MethodName) (c : ByteArray) (n : Nat) (rt : Option FieldType) (hh : List (Nat × Nat × Nat × Nat)) (k mc ms : Nat) (args : List Value) (w0 : va_W) {S : Type} (rv : S → Option Value) (post : S → Prop) (w1 : S → va_W) : Prop :=
  ∀ sz : Nat, Met l y (wsH_ y c n rt hh) (zr k mc ms) (zPw s0 D tys args w0 sz) (zQ D rv post w1 (va_A w0 sz)) mc ms (va_A w0 sz)
theorem zWH_intro {s0 : State} {l : Launch} {D : va_G} {tys : List (ClassId × FieldType)} {y : MethodName} {cc : ByteArray} {n : Nat} {rt : Option FieldType} {hh : List (Nat × Nat × Nat × Nat)} {k mc ms : Nat} {al : List Value} {w0 : va_W} {S : Type} {rv : S → Option Value} {post : S → Prop} {w1 : S → va_W} (hy : plainName y.cls = true) (ha : (lg_sl al).length ≤ n)
    (body : ∀ (p : Program) (e : Env) (s : State) (m : MethodId) (below : List Frame) (meth : Method) (c : Code) (A : Nat → Prop), zC D tys p s m al.toArray meth c cc y.cls rt n → c.exceptionTable.toList = tableOf hh → (∀ q : Nat, s.heap.size ≤ q → A q) → zG s0 A s s.heap → va_P D vwCl w0 s.heap → va_D A w0 → va_S A s.heap s.heap [] →
      ∀ ls : Array Slot, lv_has ls n (lv_args 0 al) → W p l e (zr k mc ms) s m al.toArray below meth c s.heap [] 0 0 (MQ below (zQ D rv post w1 A) al.toArray s mc ms A) (F0 m 0 ls [])) :
    zWH s0 l D tys y cc n rt hh k mc ms al w0 rv post w1 := by
  intro sz
  refine MetFree.of_bodyS (code := cc) (maxLocals := n) (ret := rt) hy ?_ ?_
  · intro args s m h hn
    obtain ⟨m9, meth, c, hn9, h1, h2, h3, h4, -, h5, h6, -⟩ := Cond.codeWith_spec (atoms_spec (ws := wsH_ y cc n rt hh) h _ List.mem_cons_self)
    cases hn.symm.trans hn9
    exact ⟨meth, c, h1, h2, h3, h4, h5, h6⟩
  · intro p e s m args below meth c s₁ B hml hv _
    obtain ⟨rfl, hsz, hP, hK, hD0, hG⟩ := hv
    subst hsz
    have hts0 : ∀ v ∈ wsH_ y cc n rt hh, v.before al.toArray s = true := atoms_spec (ws := wsH_ y cc n rt hh) B.pre
    have htab : c.exceptionTable.toList = tableOf hh := vx_table (x := y) B (hts0 _ List.mem_cons_self)
    have hts : ∀ v ∈ lw_all, v.before al.toArray s = true := ws_in (w := .codeWith y cc n rt hh) hts0
    have hl := lv_entry al (n := n) ha
    have hh0 : s₁.heap = s.heap := by rw [B.state]; rfl
    have K : W p l e (zr k mc ms) s m al.toArray below meth c s.heap [] 0 0 (MQ below (zQ D rv post w1 (va_A w0 s.heap.size)) al.toArray s mc ms (va_A w0 s.heap.size)) (entryFrame m al.toArray n) := by
      rw [lg_entry_eq]
      exact body p e s m below meth c _ ⟨B.exec, B.bytes, hts, findClass_of_methodNamed B.named, B.returns, hml, B.notSynchronized, hK⟩ htab (fun q h => Or.inr h) hG hP (hD0.self (sz := s.heap.size)) va_S.rf _ hl
    obtain ⟨t, a1, o, b1, b2, b3⟩ := K s₁ hh0 (Stand.of_body B)
    exact ⟨t, o, a1, b1, b2, ⟨b3.1, b3.2⟩⟩
def zSH (y : MethodName) (bytes : ByteArray) (maxL : Nat) (ret : Option FieldType) (hh : List (Nat × Nat × Nat × Nat)) (n : Nat) : Prop := Cond.static y ∈ lw_all ∧ Cond.initialized y.cls ∈ lw_all ∧ Cond.codeWith y bytes maxL ret hh ∈ lw_all ∧ y.cls ≠ "java/lang/invoke/MethodHandle" ∧ y.cls ≠ "java/lang/invoke/VarHandle" ∧ (parseMethodDescriptor y.desc).map (fun d => d.parameters.length) = some n
theorem z_WH {s0 : State} {p : Program} {l : Launch} {e : Env} {R : Room} {s : State} {m : MethodId} {args : Array Value} {below : List Frame} {meth : Method} {c : Code} {H : Heap} {locs : List Loc} {cells slots : Nat} {Q : State → Prop} {D : va_G} {tys : List (ClassId × FieldType)} {cc : ByteArray} {own : String} {rt : Option FieldType} {nL : Nat} {pc : Nat} {ls : Array Slot} {rest : List Value} {ws : va_W} {A : Nat → Prop} {mc ms : Nat}
    {S : Type} {rv : S → Option Value} {post : S → Prop} {w1 wN : S → va_W} {wc wr : va_W} {y : MethodName} {bytes : ByteArray} {maxL n k index : Nat} {ret : Option FieldType} {hh : List (Nat × Nat × Nat × Nat)} {As st0 : List Value} (isC isR perm : List Nat) (C : zC D tys p s m args meth c cc own rt nL) (hG : zG s0 A s s.heap) (hA : ∀ q : Nat, s.heap.size ≤ q → A q) (hP : va_P D vwCl ws H) (hD : va_D A ws) (hS : va_S A s.heap H locs)
    (hM : zWH s0 l D tys y bytes maxL ret hh k mc ms As wc rv post w1) (hl : Cond.methodLink own index y ∈ lw_all) (F : zSH y bytes maxL ret hh n)
    (hC : isC.map (fun i => ws[i]?) = wc.map some) (hRr : isR.map (fun i => ws[i]?) = wr.map some) (hnn : va_nd isC = true ∧ va_nd isR = true ∧ va_nd perm = true) (hdis : ∀ i ∈ isR, i ∉ isC) (hperm : ∀ u, perm.map (fun i => (wr ++ w1 u)[i]?) = (wN u).map some)
    (hn : As.length = n) (hR : k + 1 ≤ R.frames ∧ 8 + (maxL + 11) + 40 * k ≤ R.locals) (hf : cells + mc ≤ R.cells ∧ slots + ms ≤ R.slots)
    (hsz : ls.size = nL) (hst : st0 = As.reverse ++ rest) (hW : 2 * (F0 m pc ls rest).monitorRoom + (rest.map fun v => v.category).sum ≤ 8) (hdg : decode cc pc = .ok (.invokestatic index, 3))
    (kk : ∀ (u : S) (H1 : Heap) (locs1 : List Loc), post u → va_P D vwCl (wN u) H1 → va_D A (wN u) → va_S A s.heap H1 locs1 → W p l e R s m args below meth c H1 locs1 (cells + mc) (slots + ms) Q (F0 m (pc + 3) ls ((rv u).toList ++ rest))) : W p l e R s m args below meth c H locs cells slots Q (F0 m pc ls st0) := by
  obtain ⟨f1, f3, f4, f5⟩ := F
  have hGI : GoodIn lw_all (va_wsS own index y (wsH_ y bytes maxL ret hh)) := fun w hw => by
    have hw : w ∈ ([.methodLink own index y, .static y, .initialized y.cls] : List Cond) ++ wsH_ y bytes maxL ret hh := hw
    have hm : w ∈ lw_all := by
      rcases List.mem_append.mp hw with h | h
      · rcases List.mem_cons.mp h with rfl | h
        · exact hl
        rcases List.mem_cons.mp h with rfl | h
        · exact f1
        rcases List.mem_cons.mp h with rfl | h
        · exact f3
        exact absurd h List.not_mem_nil
      · rcases List.mem_cons.mp h with rfl | h
        · exact f4
        · exact h
    exact ⟨hm, good_of_word (lw_all_good hm)⟩
  exact z_endW isC isR perm hA hP hD hS hC hRr hnn.2.1 hdis hperm hnn.2.2 (vx_runSW (z_cf C) (hM H.size) (vx_cwSW n C.2.2.1 hGI rfl rfl rfl f5 hR) ⟨zPw_blind, z_pw C hG hA hP hD hS hC hnn.1⟩ rfl hn hsz hst hW hdg hf) kk
theorem z_cast {s0 s : State} {E T : String} {args : Array Value} (hs0 : zS s0) (hW : s0.WarmedH s.vm) (h : Cond.castable E T ∈ lw_tbl) : (Cond.castable E T).before args s = true := by
  obtain ⟨a0, h0, -⟩ := hs0
  exact va_Nw.use rfl (va_Nw.warmC hW (va_Nw.of (A := a0) rfl (h0 _ h)))
theorem z_ncast {s0 s : State} {E T : String} (hs0 : zS s0) (hW : s0.WarmedH s.vm) (h : Cond.not (.castable E T) ∈ flatC (Jvm.Cond.and given_1 narrow_1)) : va_Nc E T s := by
  obtain ⟨a0, -, h1⟩ := hs0
  exact va_Nc.moved hW.alike (va_Nc.of (flat_of_before _ h1 _ h))
theorem zc_i : Cond.castable "java/lang/IndexOutOfBoundsException" "java/lang/IndexOutOfBoundsException" ∈ lw_tbl := List.mem_append_right _ (List.mem_append_left _ (List.mem_of_getElem? (i := 164) (by decide +kernel)))
theorem zn_ia : Cond.not (.castable "java/lang/IndexOutOfBoundsException" "java/lang/IllegalArgumentException") ∈ flatC (Jvm.Cond.and given_1 narrow_1) := by decide +kernel
theorem zn_is : Cond.not (.castable "java/lang/IndexOutOfBoundsException" "java/lang/IllegalStateException") ∈ flatC (Jvm.Cond.and given_1 narrow_1) := by decide +kernel
theorem zc_a : Cond.castable "java/lang/IllegalArgumentException" "java/lang/IllegalArgumentException" ∈ lw_tbl := List.mem_append_right _ (List.mem_append_right _ (List.mem_append_left _ (List.mem_of_getElem? (i := 18) (by decide +kernel))))
theorem zn_ai : Cond.not (.castable "java/lang/IllegalArgumentException" "java/lang/IndexOutOfBoundsException") ∈ flatC (Jvm.Cond.and given_1 narrow_1) := by decide +kernel
theorem zn_as : Cond.not (.castable "java/lang/IllegalArgumentException" "java/lang/IllegalStateException") ∈ flatC (Jvm.Cond.and given_1 narrow_1) := by decide +kernel
theorem zc_s : Cond.castable "java/lang/IllegalStateException" "java/lang/IllegalStateException" ∈ lw_tbl := List.mem_append_right _ (List.mem_append_right _ (List.mem_append_left _ (List.mem_of_getElem? (i := 166) (by decide +kernel))))
theorem zn_si : Cond.not (.castable "java/lang/IllegalStateException" "java/lang/IndexOutOfBoundsException") ∈ flatC (Jvm.Cond.and given_1 narrow_1) := by decide +kernel
theorem zn_sa : Cond.not (.castable "java/lang/IllegalStateException" "java/lang/IllegalArgumentException") ∈ flatC (Jvm.Cond.and given_1 narrow_1) := by decide +kernel
theorem q554 : (Jvm.Cond.code ({ cls := "PactClocks", name := "addParty", desc := "(I)I" } : Jvm.MethodName) prog_1_method_2_code (3 : Nat) (Option.some Jvm.ClassFile.FieldType.int)) ∈ lw_all := mt2 163 (by decide +kernel) (by decide +kernel)
theorem q555 : (Jvm.Cond.instanceMethod ({ cls := "PactClocks", name := "addParty", desc := "(I)I" } : Jvm.MethodName)) ∈ lw_all := mt2 161 (by decide +kernel) (by decide +kernel)
theorem q556 : (Jvm.Cond.selects "PactClocks" ({ cls := "PactClocks", name := "addParty", desc := "(I)I" } : Jvm.MethodName) ({ cls := "PactClocks", name := "addParty", desc := "(I)I" } : Jvm.MethodName)) ∈ lw_all := mt2 162 (by decide +kernel) (by decide +kernel)
theorem q557 : (Jvm.Cond.methodLink "PactClocksLaw" (7 : Nat) ({ cls := "PactClocks", name := "addParty", desc := "(I)I" } : Jvm.MethodName)) ∈ lw_all := mt2 160 (by decide +kernel) (by decide +kernel)
theorem q558 : (Jvm.Cond.classLink "PactClocksLaw" (13 : Nat) "java/lang/IllegalArgumentException") ∈ lw_all := mt2 158 (by decide +kernel) (by decide +kernel)
theorem q559 : (Jvm.Cond.classLink "PactClocksLaw" (15 : Nat) "java/lang/IllegalStateException") ∈ lw_all := mt2 159 (by decide +kernel) (by decide +kernel)
theorem q560 : (Jvm.Cond.code ({ cls := "PactClocks", name := "addDuty", desc := "(IIIIIII)I" } : Jvm.MethodName) prog_1_method_3_code (9 : Nat) (Option.some Jvm.ClassFile.FieldType.int)) ∈ lw_all := mt2 187 (by decide +kernel) (by decide +kernel)
theorem q561 : (Jvm.Cond.instanceMethod ({ cls := "PactClocks", name := "addDuty", desc := "(IIIIIII)I" } : Jvm.MethodName)) ∈ lw_all := mt2 185 (by decide +kernel) (by decide +kernel)
theorem q562 : (Jvm.Cond.selects "PactClocks" ({ cls := "PactClocks", name := "addDuty", desc := "(IIIIIII)I" } : Jvm.MethodName) ({ cls := "PactClocks", name := "addDuty", desc := "(IIIIIII)I" } : Jvm.MethodName)) ∈ lw_all := mt2 186 (by decide +kernel) (by decide +kernel)
theorem q563 : (Jvm.Cond.methodLink "PactClocksLaw" (17 : Nat) ({ cls := "PactClocks", name := "addDuty", desc := "(IIIIIII)I" } : Jvm.MethodName)) ∈ lw_all := mt2 184 (by decide +kernel) (by decide +kernel)
theorem q564 : (Jvm.Cond.classLink "PactClocksLaw" (21 : Nat) "java/lang/IndexOutOfBoundsException") ∈ lw_all := mt2 183 (by decide +kernel) (by decide +kernel)
theorem q565 : (Jvm.Cond.code ({ cls := "PactClocks", name := "pay", desc := "(I)I" } : Jvm.MethodName) prog_1_method_4_code (3 : Nat) (Option.some Jvm.ClassFile.FieldType.int)) ∈ lw_all := mt3 190 (by decide +kernel) (by decide +kernel)
theorem q566 : (Jvm.Cond.instanceMethod ({ cls := "PactClocks", name := "pay", desc := "(I)I" } : Jvm.MethodName)) ∈ lw_all := mt3 188 (by decide +kernel) (by decide +kernel)
theorem q567 : (Jvm.Cond.selects "PactClocks" ({ cls := "PactClocks", name := "pay", desc := "(I)I" } : Jvm.MethodName) ({ cls := "PactClocks", name := "pay", desc := "(I)I" } : Jvm.MethodName)) ∈ lw_all := mt3 189 (by decide +kernel) (by decide +kernel)
theorem q568 : (Jvm.Cond.methodLink "PactClocksLaw" (23 : Nat) ({ cls := "PactClocks", name := "pay", desc := "(I)I" } : Jvm.MethodName)) ∈ lw_all := mt3 187 (by decide +kernel) (by decide +kernel)
theorem q569 : (Jvm.Cond.code ({ cls := "PactClocks", name := "release", desc := "(I)I" } : Jvm.MethodName) prog_1_method_5_code (2 : Nat) (Option.some Jvm.ClassFile.FieldType.int)) ∈ lw_all := mt3 198 (by decide +kernel) (by decide +kernel)
theorem q570 : (Jvm.Cond.instanceMethod ({ cls := "PactClocks", name := "release", desc := "(I)I" } : Jvm.MethodName)) ∈ lw_all := mt3 196 (by decide +kernel) (by decide +kernel)
theorem q571 : (Jvm.Cond.selects "PactClocks" ({ cls := "PactClocks", name := "release", desc := "(I)I" } : Jvm.MethodName) ({ cls := "PactClocks", name := "release", desc := "(I)I" } : Jvm.MethodName)) ∈ lw_all := mt3 197 (by decide +kernel) (by decide +kernel)
theorem q572 : (Jvm.Cond.methodLink "PactClocksLaw" (26 : Nat) ({ cls := "PactClocks", name := "release", desc := "(I)I" } : Jvm.MethodName)) ∈ lw_all := mt3 195 (by decide +kernel) (by decide +kernel)
theorem q573 : (Jvm.Cond.code ({ cls := "PactClocks", name := "stop", desc := "(II)I" } : Jvm.MethodName) prog_1_method_6_code (4 : Nat) (Option.some Jvm.ClassFile.FieldType.int)) ∈ lw_all := mt3 208 (by decide +kernel) (by decide +kernel)
theorem q574 : (Jvm.Cond.instanceMethod ({ cls := "PactClocks", name := "stop", desc := "(II)I" } : Jvm.MethodName)) ∈ lw_all := mt3 206 (by decide +kernel) (by decide +kernel)
theorem q575 : (Jvm.Cond.selects "PactClocks" ({ cls := "PactClocks", name := "stop", desc := "(II)I" } : Jvm.MethodName) ({ cls := "PactClocks", name := "stop", desc := "(II)I" } : Jvm.MethodName)) ∈ lw_all := mt3 207 (by decide +kernel) (by decide +kernel)
theorem q576 : (Jvm.Cond.methodLink "PactClocksLaw" (29 : Nat) ({ cls := "PactClocks", name := "stop", desc := "(II)I" } : Jvm.MethodName)) ∈ lw_all := mt3 205 (by decide +kernel) (by decide +kernel)
theorem q577 : (Jvm.Cond.code ({ cls := "PactClocks", name := "give", desc := "(II)I" } : Jvm.MethodName) prog_1_method_7_code (3 : Nat) (Option.some Jvm.ClassFile.FieldType.int)) ∈ lw_all := mt3 216 (by decide +kernel) (by decide +kernel)
theorem q578 : (Jvm.Cond.instanceMethod ({ cls := "PactClocks", name := "give", desc := "(II)I" } : Jvm.MethodName)) ∈ lw_all := mt3 214 (by decide +kernel) (by decide +kernel)
theorem q579 : (Jvm.Cond.selects "PactClocks" ({ cls := "PactClocks", name := "give", desc := "(II)I" } : Jvm.MethodName) ({ cls := "PactClocks", name := "give", desc := "(II)I" } : Jvm.MethodName)) ∈ lw_all := mt3 215 (by decide +kernel) (by decide +kernel)
theorem q580 : (Jvm.Cond.methodLink "PactClocksLaw" (33 : Nat) ({ cls := "PactClocks", name := "give", desc := "(II)I" } : Jvm.MethodName)) ∈ lw_all := mt3 213 (by decide +kernel) (by decide +kernel)
theorem q581 : (Jvm.Cond.code ({ cls := "PactClocks", name := "pass", desc := "(I)I" } : Jvm.MethodName) prog_1_method_8_code (2 : Nat) (Option.some Jvm.ClassFile.FieldType.int)) ∈ lw_all := mt3 223 (by decide +kernel) (by decide +kernel)
theorem q582 : (Jvm.Cond.instanceMethod ({ cls := "PactClocks", name := "pass", desc := "(I)I" } : Jvm.MethodName)) ∈ lw_all := mt3 221 (by decide +kernel) (by decide +kernel)
theorem q583 : (Jvm.Cond.selects "PactClocks" ({ cls := "PactClocks", name := "pass", desc := "(I)I" } : Jvm.MethodName) ({ cls := "PactClocks", name := "pass", desc := "(I)I" } : Jvm.MethodName)) ∈ lw_all := mt3 222 (by decide +kernel) (by decide +kernel)
theorem q584 : (Jvm.Cond.methodLink "PactClocksLaw" (36 : Nat) ({ cls := "PactClocks", name := "pass", desc := "(I)I" } : Jvm.MethodName)) ∈ lw_all := mt3 220 (by decide +kernel) (by decide +kernel)
theorem q585 : (Jvm.Cond.methodLink "PactClocksLaw" (39 : Nat) ({ cls := "PactClocks", name := "inState", desc := "(I)I" } : Jvm.MethodName)) ∈ lw_all := mt3 227 (by decide +kernel) (by decide +kernel)
theorem q586 : (Jvm.Cond.methodLink "PactClocksLaw" (42 : Nat) ({ cls := "PactClocks", name := "purseOf", desc := "(I)I" } : Jvm.MethodName)) ∈ lw_all := mt3 231 (by decide +kernel) (by decide +kernel)
theorem q587 : (Jvm.Cond.methodLink "PactClocksLaw" (45 : Nat) ({ cls := "PactClocks", name := "stateOf", desc := "(I)I" } : Jvm.MethodName)) ∈ lw_all := mt3 235 (by decide +kernel) (by decide +kernel)
theorem q588 : (Jvm.Cond.methodLink "PactClocksLaw" (48 : Nat) ({ cls := "PactClocks", name := "daysLeft", desc := "(I)I" } : Jvm.MethodName)) ∈ lw_all := mt3 239 (by decide +kernel) (by decide +kernel)
theorem q589 : (Jvm.Cond.methodLink "PactClocksLaw" (51 : Nat) ({ cls := "PactClocks", name := "stoppedFor", desc := "(I)I" } : Jvm.MethodName)) ∈ lw_all := mt4 3 (by decide +kernel) (by decide +kernel)
theorem q590 : (Jvm.Cond.methodLink "PactClocksLaw" (54 : Nat) ({ cls := "PactClocks", name := "priceOf", desc := "(I)I" } : Jvm.MethodName)) ∈ lw_all := mt4 7 (by decide +kernel) (by decide +kernel)
theorem q591 : (Jvm.Cond.methodLink "PactClocksLaw" (57 : Nat) ({ cls := "PactClocks", name := "hanging", desc := "(I)I" } : Jvm.MethodName)) ∈ lw_all := mt4 11 (by decide +kernel) (by decide +kernel)
theorem q592 : (Jvm.Cond.methodLink "PactClocksLaw" (60 : Nat) ({ cls := "PactClocks", name := "depthOf", desc := "(I)I" } : Jvm.MethodName)) ∈ lw_all := mt4 15 (by decide +kernel) (by decide +kernel)
theorem q593 : (Jvm.Cond.code ({ cls := "PactClocks", name := "textLength", desc := "(I)I" } : Jvm.MethodName) prog_1_method_21_code (2 : Nat) (Option.some Jvm.ClassFile.FieldType.int)) ∈ lw_all := mt4 22 (by decide +kernel) (by decide +kernel)
theorem q594 : (Jvm.Cond.instanceMethod ({ cls := "PactClocks", name := "textLength", desc := "(I)I" } : Jvm.MethodName)) ∈ lw_all := mt4 20 (by decide +kernel) (by decide +kernel)
theorem q595 : (Jvm.Cond.selects "PactClocks" ({ cls := "PactClocks", name := "textLength", desc := "(I)I" } : Jvm.MethodName) ({ cls := "PactClocks", name := "textLength", desc := "(I)I" } : Jvm.MethodName)) ∈ lw_all := mt4 21 (by decide +kernel) (by decide +kernel)
theorem q596 : (Jvm.Cond.methodLink "PactClocksLaw" (63 : Nat) ({ cls := "PactClocks", name := "textLength", desc := "(I)I" } : Jvm.MethodName)) ∈ lw_all := mt4 19 (by decide +kernel) (by decide +kernel)
theorem q597 : (Jvm.Cond.methodLink "PactClocksLaw" (66 : Nat) ({ cls := "PactClocks", name := "sealOf", desc := "(I)I" } : Jvm.MethodName)) ∈ lw_all := mt4 26 (by decide +kernel) (by decide +kernel)
theorem q598 : (Jvm.Cond.methodLink "PactClocksLaw" (69 : Nat) ({ cls := "PactClocks", name := "owes", desc := "(I)I" } : Jvm.MethodName)) ∈ lw_all := mt4 30 (by decide +kernel) (by decide +kernel)
theorem q599 : (Jvm.Cond.methodLink "PactClocksLaw" (72 : Nat) ({ cls := "PactClocks", name := "balance", desc := "(II)I" } : Jvm.MethodName)) ∈ lw_all := mt4 34 (by decide +kernel) (by decide +kernel)
theorem q600 : (Jvm.Cond.methodLink "PactClocksLaw" (75 : Nat) ({ cls := "PactClocks", name := "daysUntilFailed", desc := "(I)I" } : Jvm.MethodName)) ∈ lw_all := mt4 38 (by decide +kernel) (by decide +kernel)
theorem q601 : (Jvm.Cond.methodLink "PactClocksLaw" (78 : Nat) ({ cls := "PactClocks", name := "purseIn", desc := "(II)I" } : Jvm.MethodName)) ∈ lw_all := mt4 42 (by decide +kernel) (by decide +kernel)
theorem q602 : (Jvm.Cond.methodLink "PactClocksLaw" (81 : Nat) ({ cls := "PactClocks", name := "bestToPay", desc := "(I)I" } : Jvm.MethodName)) ∈ lw_all := mt4 46 (by decide +kernel) (by decide +kernel)
theorem v_X2_addParty : zV yX2_addParty cX2_addParty 3 (some .int) 1 := ⟨q555, q556, q202, q554, by decide +kernel, by decide +kernel, by decide +kernel⟩
theorem v_X2_addDuty : zV yX2_addDuty cX2_addDuty 9 (some .int) 7 := ⟨q561, q562, q202, q560, by decide +kernel, by decide +kernel, by decide +kernel⟩
theorem v_X2_pay : zV yX2_pay cX2_pay 3 (some .int) 1 := ⟨q566, q567, q202, q565, by decide +kernel, by decide +kernel, by decide +kernel⟩
theorem v_X2_release : zV yX2_release cX2_release 2 (some .int) 1 := ⟨q570, q571, q202, q569, by decide +kernel, by decide +kernel, by decide +kernel⟩
theorem v_X2_stop : zV yX2_stop cX2_stop 4 (some .int) 2 := ⟨q574, q575, q202, q573, by decide +kernel, by decide +kernel, by decide +kernel⟩
theorem v_X2_give : zV yX2_give cX2_give 3 (some .int) 2 := ⟨q578, q579, q202, q577, by decide +kernel, by decide +kernel, by decide +kernel⟩
theorem v_X2_pass : zV yX2_pass cX2_pass 2 (some .int) 1 := ⟨q582, q583, q202, q581, by decide +kernel, by decide +kernel, by decide +kernel⟩
theorem v_X2_textLength : zV yX2_textLength cX2_textLength 2 (some .int) 1 := ⟨q594, q595, q202, q593, by decide +kernel, by decide +kernel, by decide +kernel⟩
def wpL_addParty (post : Int32 → DS → (Nat → Int64) → Prop) (d : DS) (w : (Nat → Int64)) (p1 : Int32) : Prop := wpX2_addParty (fun r4 d4 => post 0 d4 (vp_updL w (0 : Int32).toNatClampNeg r4.toInt64)) (fun E9 : String => (E9 = "java/lang/IllegalArgumentException" ∧ post 1 d w) ∨ (E9 = "java/lang/IllegalStateException" ∧ post 2 d w)) d p1
set_option maxHeartbeats 4000000 in
set_option maxRecDepth 100000 in
theorem c_L_addParty {l : Launch} (hfl : l.stackTraces = false) {s0 : State} (hs0 : zS s0) (D : va_G) (cI cB cJ : ClassId) (dA : Nat → Nat) (bA : Nat → Nat) (aA : Nat → Nat) (tA : Nat → Nat) (oA : Nat → Nat) (d : DS) (w : (Nat → Int64)) (p1 : Int32) {post : Int32 → DS → (Nat → Int64) → Prop} (h : wpL_addParty post d w p1) : zWH s0 l D (zty cI cB cJ) yL_addParty cL_addParty 4 (some .int) [(0, 9, 12, 13), (0, 9, 15, 15)] 8 2 12 [.ref (dA 0), .int p1, .ref (oA 0)] (wD cI dA bA aA tA d ++ [((oA 0), .inl (cJ, 1, .inr (.inl w)))]) (fun u : Int32 × DS × (Nat → Int64) => some (Value.int u.1)) (fun u : Int32 × DS × (Nat → Int64) => post u.1 u.2.1 u.2.2) (fun u : Int32 × DS × (Nat → Int64) => wD cI dA bA aA tA u.2.1 ++ [((oA 0), .inl (cJ, 1, .inr (.inl u.2.2)))]) := by
  refine zWH_intro (by decide +kernel) (Nat.le_of_ble_eq_true rfl) ?_
  intro p e s m below meth c A C htab hA hG hP hD hS ls hl
  have C : zC D (zty cI cB cJ) p s m ([.ref (dA 0), .int p1, .ref (oA 0)] : List Value).toArray meth c cL_addParty RL (some .int) 4 := C
  have hx := C.1
  have hb := C.2.1
  have hts := C.2.2.1
  have hown := C.2.2.2.1
  have hml := C.2.2.2.2.2.1
  have hK := C.2.2.2.2.2.2.2
  have hl : lv_has ls 4 [(0, .ref (dA 0)), (1, .int p1), (2, .ref (oA 0))] := hl
  have hP : va_P D vwCl (wD cI dA bA aA tA d ++ [((oA 0), .inl (cJ, 1, .inr (.inl w)))]) s.heap := hP
  have hD : va_D A (wD cI dA bA aA tA d ++ [((oA 0), .inl (cJ, 1, .inr (.inl w)))]) := hD
  unfold wpL_addParty at h
  refine lv_aload_n hx hb dL_addParty_0 rfl (lv_at hl 2 rfl) ?_
  refine lv_iconst (v := 0) hx hb dL_addParty_1 (by decide) ?_
  refine lv_aload_n hx hb dL_addParty_2 rfl (lv_at hl 0 rfl) ?_
  refine lv_iload_n hx hb dL_addParty_3 rfl (lv_at hl 1 rfl) ?_
  refine z_XV (As := [.int p1]) (rest := [.int 0, .ref (oA 0)]) (wr := (List.filterMap (fun i => (wD cI dA bA aA tA d ++ [((oA 0), .inl (cJ, 1, .inr (.inl w)))])[i]?) [22])) (wN := (fun u : Int32 × DS => wD cI dA bA aA tA u.2 ++ [((oA 0), .inl (cJ, 1, .inr (.inl w)))])) [0, 1, 2, 3, 4, 5, 6, 7, 8, 9, 10, 11, 12, 13, 14, 15, 16, 17, 18, 19, 20, 21] [22] [1, 2, 3, 4, 5, 6, 7, 8, 9, 10, 11, 12, 13, 14, 15, 16, 17, 18, 19, 20, 21, 22, 0] [1, 2, 3, 4, 5, 6, 7, 8, 9, 10, 11, 12, 13, 14, 15, 16, 17, 18, 19, 20, 21, 22, 0] C hG hA hP hD hS (x_X2_addParty hfl hs0 D cI cB cJ dA bA aA tA d p1 h) q557 v_X2_addParty rfl rfl ⟨by decide, by decide, by decide⟩ (by decide) (fun _ => rfl) rfl rfl rfl rfl ⟨(Nat.le_of_ble_eq_true rfl), (Nat.le_of_ble_eq_true rfl)⟩ ⟨(Nat.le_of_ble_eq_true rfl), (Nat.le_of_ble_eq_true rfl)⟩ hl.1 rfl (lv_room (Nat.le_of_ble_eq_true rfl)) dL_addParty_4 ?_ ?_
  · intro E ce q9 H locs hE hP hS hce hcv hcl
    have hP : va_P D vwCl (wD cI dA bA aA tA d ++ [((oA 0), .inl (cJ, 1, .inr (.inl w)))]) H := hP
    rcases hE with ⟨rfl, h⟩ | ⟨rfl, h⟩
    · refine vx_catch hown [] ⟨0, 9, 12, 13⟩ [⟨0, 9, 15, 15⟩] (htab.trans rfl) (fun z hz => absurd hz List.not_mem_nil) rfl (by decide) (hts _ q558) (z_cast hs0 hG.1 zc_a) hce hcv hcl ?_
      show W p l e _ s m _ below meth c _ _ _ _ _ (F0 m 12 ls [.ref q9])
      refine lv_astore_n (lv' := [(3, .ref q9), (0, .ref (dA 0)), (1, .int p1), (2, .ref (oA 0))]) hx hb dL_addParty_12 rfl hl (by decide) rfl (fun ls hl => ?_)
      refine lv_iconst (v := 1) hx hb dL_addParty_13 (by decide) ?_
      exact zW_iret C (1, d, w) rfl h hP hD hS (Nat.le_of_ble_eq_true rfl) (Nat.le_of_ble_eq_true rfl) dL_addParty_14
    · refine vx_catch hown [⟨0, 9, 12, 13⟩] ⟨0, 9, 15, 15⟩ [] (htab.trans rfl) (List.forall_mem_cons.mpr ⟨Or.inr ⟨by decide, "java/lang/IllegalArgumentException", hts _ q558, z_ncast hs0 hG.1 zn_sa⟩, (fun z hz => absurd hz List.not_mem_nil)⟩) rfl (by decide) (hts _ q559) (z_cast hs0 hG.1 zc_s) hce hcv hcl ?_
      show W p l e _ s m _ below meth c _ _ _ _ _ (F0 m 15 ls [.ref q9])
      refine lv_astore_n (lv' := [(3, .ref q9), (0, .ref (dA 0)), (1, .int p1), (2, .ref (oA 0))]) hx hb dL_addParty_15 rfl hl (by decide) rfl (fun ls hl => ?_)
      refine lv_iconst (v := 2) hx hb dL_addParty_16 (by decide) ?_
      exact zW_iret C (2, d, w) rfl h hP hD hS (Nat.le_of_ble_eq_true rfl) (Nat.le_of_ble_eq_true rfl) dL_addParty_17
  · intro u H locs h hP hD hS
    obtain ⟨r4, d4⟩ := u
    have hP : va_P D vwCl (wD cI dA bA aA tA d4 ++ [((oA 0), .inl (cJ, 1, .inr (.inl w)))]) H := hP
    have hD : va_D A (wD cI dA bA aA tA d4 ++ [((oA 0), .inl (cJ, 1, .inr (.inl w)))]) := hD
    refine lv_i2l hx hb dL_addParty_7 rfl ?_
    refine va_last hx hb hK hP hD hS 22 2 rfl rfl (show ¬ ((0 : Int32) < 0 ∨ 1 ≤ (0 : Int32).toNatClampNeg) from by decide) dL_addParty_8 (fun H locs hP hD hS => ?_)
    have hP : va_P D vwCl (wD cI dA bA aA tA d4 ++ [((oA 0), .inl (cJ, 1, .inr (.inl (vp_updL w (0 : Int32).toNatClampNeg r4.toInt64))))]) H := hP
    have hD : va_D A (wD cI dA bA aA tA d4 ++ [((oA 0), .inl (cJ, 1, .inr (.inl (vp_updL w (0 : Int32).toNatClampNeg r4.toInt64))))]) := hD
    refine lv_goto (tgt := 18) hx hb dL_addParty_9 (by decide) ?_
    refine lv_iconst (v := 0) hx hb dL_addParty_18 (by decide) ?_
    exact zW_iret C (0, d4, (vp_updL w (0 : Int32).toNatClampNeg r4.toInt64)) rfl h hP hD hS (Nat.le_of_ble_eq_true rfl) (Nat.le_of_ble_eq_true rfl) dL_addParty_19
def wpL_addDuty (post : Int32 → DS → (Nat → Int64) → Prop) (d : DS) (w : (Nat → Int64)) (p1 : Int32) (p2 : Int32) (p3 : Int32) (p4 : Int32) (p5 : Int32) (p6 : Int32) (p7 : Int32) : Prop := wpX2_addDuty (fun r15 d15 => post 0 d15 (vp_updL w (0 : Int32).toNatClampNeg r15.toInt64)) (fun E9 : String => (E9 = "java/lang/IndexOutOfBoundsException" ∧ post 1 d w) ∨ (E9 = "java/lang/IllegalArgumentException" ∧ post 2 d w) ∨ (E9 = "java/lang/IllegalStateException" ∧ post 3 d w)) d p1 p2 p3 p4 p5 p6 p7
set_option maxHeartbeats 4000000 in
set_option maxRecDepth 100000 in
theorem c_L_addDuty {l : Launch} (hfl : l.stackTraces = false) {s0 : State} (hs0 : zS s0) (D : va_G) (cI cB cJ : ClassId) (dA : Nat → Nat) (bA : Nat → Nat) (aA : Nat → Nat) (tA : Nat → Nat) (oA : Nat → Nat) (d : DS) (w : (Nat → Int64)) (p1 : Int32) (p2 : Int32) (p3 : Int32) (p4 : Int32) (p5 : Int32) (p6 : Int32) (p7 : Int32) {post : Int32 → DS → (Nat → Int64) → Prop} (h : wpL_addDuty post d w p1 p2 p3 p4 p5 p6 p7) : zWH s0 l D (zty cI cB cJ) yL_addDuty cL_addDuty 10 (some .int) [(0, 20, 23, 21), (0, 20, 27, 13), (0, 20, 31, 15)] 10 17 334 [.ref (dA 0), .int p1, .int p2, .int p3, .int p4, .int p5, .int p6, .int p7, .ref (oA 0)] (wD cI dA bA aA tA d ++ [((oA 0), .inl (cJ, 1, .inr (.inl w)))]) (fun u : Int32 × DS × (Nat → Int64) => some (Value.int u.1)) (fun u : Int32 × DS × (Nat → Int64) => post u.1 u.2.1 u.2.2) (fun u : Int32 × DS × (Nat → Int64) => wD cI dA bA aA tA u.2.1 ++ [((oA 0), .inl (cJ, 1, .inr (.inl u.2.2)))]) := by
  refine zWH_intro (by decide +kernel) (Nat.le_of_ble_eq_true rfl) ?_
  intro p e s m below meth c A C htab hA hG hP hD hS ls hl
  have C : zC D (zty cI cB cJ) p s m ([.ref (dA 0), .int p1, .int p2, .int p3, .int p4, .int p5, .int p6, .int p7, .ref (oA 0)] : List Value).toArray meth c cL_addDuty RL (some .int) 10 := C
  have hx := C.1
  have hb := C.2.1
  have hts := C.2.2.1
  have hown := C.2.2.2.1
  have hml := C.2.2.2.2.2.1
  have hK := C.2.2.2.2.2.2.2
  have hl : lv_has ls 10 [(0, .ref (dA 0)), (1, .int p1), (2, .int p2), (3, .int p3), (4, .int p4), (5, .int p5), (6, .int p6), (7, .int p7), (8, .ref (oA 0))] := hl
  have hP : va_P D vwCl (wD cI dA bA aA tA d ++ [((oA 0), .inl (cJ, 1, .inr (.inl w)))]) s.heap := hP
  have hD : va_D A (wD cI dA bA aA tA d ++ [((oA 0), .inl (cJ, 1, .inr (.inl w)))]) := hD
  unfold wpL_addDuty at h
  refine lv_aload hx hb dL_addDuty_0 (lv_at hl 8 rfl) ?_
  refine lv_iconst (v := 0) hx hb dL_addDuty_2 (by decide) ?_
  refine lv_aload_n hx hb dL_addDuty_3 rfl (lv_at hl 0 rfl) ?_
  refine lv_iload_n hx hb dL_addDuty_4 rfl (lv_at hl 1 rfl) ?_
  refine lv_iload_n hx hb dL_addDuty_5 rfl (lv_at hl 2 rfl) ?_
  refine lv_iload_n hx hb dL_addDuty_6 rfl (lv_at hl 3 rfl) ?_
  refine lv_iload hx hb dL_addDuty_7 (lv_at hl 4 rfl) ?_
  refine lv_iload hx hb dL_addDuty_9 (lv_at hl 5 rfl) ?_
  refine lv_iload hx hb dL_addDuty_11 (lv_at hl 6 rfl) ?_
  refine lv_iload hx hb dL_addDuty_13 (lv_at hl 7 rfl) ?_
  refine z_XV (As := [.int p1, .int p2, .int p3, .int p4, .int p5, .int p6, .int p7]) (rest := [.int 0, .ref (oA 0)]) (wr := (List.filterMap (fun i => (wD cI dA bA aA tA d ++ [((oA 0), .inl (cJ, 1, .inr (.inl w)))])[i]?) [22])) (wN := (fun u : Int32 × DS => wD cI dA bA aA tA u.2 ++ [((oA 0), .inl (cJ, 1, .inr (.inl w)))])) [0, 1, 2, 3, 4, 5, 6, 7, 8, 9, 10, 11, 12, 13, 14, 15, 16, 17, 18, 19, 20, 21] [22] [1, 2, 3, 4, 5, 6, 7, 8, 9, 10, 11, 12, 13, 14, 15, 16, 17, 18, 19, 20, 21, 22, 0] [1, 2, 3, 4, 5, 6, 7, 8, 9, 10, 11, 12, 13, 14, 15, 16, 17, 18, 19, 20, 21, 22, 0] C hG hA hP hD hS (x_X2_addDuty hfl hs0 D cI cB cJ dA bA aA tA d p1 p2 p3 p4 p5 p6 p7 h) q563 v_X2_addDuty rfl rfl ⟨by decide, by decide, by decide⟩ (by decide) (fun _ => rfl) rfl rfl rfl rfl ⟨(Nat.le_of_ble_eq_true rfl), (Nat.le_of_ble_eq_true rfl)⟩ ⟨(Nat.le_of_ble_eq_true rfl), (Nat.le_of_ble_eq_true rfl)⟩ hl.1 rfl (lv_room (Nat.le_of_ble_eq_true rfl)) dL_addDuty_15 ?_ ?_
  · intro E ce q9 H locs hE hP hS hce hcv hcl
    have hP : va_P D vwCl (wD cI dA bA aA tA d ++ [((oA 0), .inl (cJ, 1, .inr (.inl w)))]) H := hP
    rcases hE with ⟨rfl, h⟩ | ⟨rfl, h⟩ | ⟨rfl, h⟩
    · refine vx_catch hown [] ⟨0, 20, 23, 21⟩ [⟨0, 20, 27, 13⟩, ⟨0, 20, 31, 15⟩] (htab.trans rfl) (fun z hz => absurd hz List.not_mem_nil) rfl (by decide) (hts _ q564) (z_cast hs0 hG.1 zc_i) hce hcv hcl ?_
      show W p l e _ s m _ below meth c _ _ _ _ _ (F0 m 23 ls [.ref q9])
      refine lv_astore (lv' := [(9, .ref q9), (0, .ref (dA 0)), (1, .int p1), (2, .int p2), (3, .int p3), (4, .int p4), (5, .int p5), (6, .int p6), (7, .int p7), (8, .ref (oA 0))]) hx hb dL_addDuty_23 hl (by decide) rfl (fun ls hl => ?_)
      refine lv_iconst (v := 1) hx hb dL_addDuty_25 (by decide) ?_
      exact zW_iret C (1, d, w) rfl h hP hD hS (Nat.le_of_ble_eq_true rfl) (Nat.le_of_ble_eq_true rfl) dL_addDuty_26
    · refine vx_catch hown [⟨0, 20, 23, 21⟩] ⟨0, 20, 27, 13⟩ [⟨0, 20, 31, 15⟩] (htab.trans rfl) (List.forall_mem_cons.mpr ⟨Or.inr ⟨by decide, "java/lang/IndexOutOfBoundsException", hts _ q564, z_ncast hs0 hG.1 zn_ai⟩, (fun z hz => absurd hz List.not_mem_nil)⟩) rfl (by decide) (hts _ q558) (z_cast hs0 hG.1 zc_a) hce hcv hcl ?_
      show W p l e _ s m _ below meth c _ _ _ _ _ (F0 m 27 ls [.ref q9])
      refine lv_astore (lv' := [(9, .ref q9), (0, .ref (dA 0)), (1, .int p1), (2, .int p2), (3, .int p3), (4, .int p4), (5, .int p5), (6, .int p6), (7, .int p7), (8, .ref (oA 0))]) hx hb dL_addDuty_27 hl (by decide) rfl (fun ls hl => ?_)
      refine lv_iconst (v := 2) hx hb dL_addDuty_29 (by decide) ?_
      exact zW_iret C (2, d, w) rfl h hP hD hS (Nat.le_of_ble_eq_true rfl) (Nat.le_of_ble_eq_true rfl) dL_addDuty_30
    · refine vx_catch hown [⟨0, 20, 23, 21⟩, ⟨0, 20, 27, 13⟩] ⟨0, 20, 31, 15⟩ [] (htab.trans rfl) (List.forall_mem_cons.mpr ⟨Or.inr ⟨by decide, "java/lang/IndexOutOfBoundsException", hts _ q564, z_ncast hs0 hG.1 zn_si⟩, (List.forall_mem_cons.mpr ⟨Or.inr ⟨by decide, "java/lang/IllegalArgumentException", hts _ q558, z_ncast hs0 hG.1 zn_sa⟩, (fun z hz => absurd hz List.not_mem_nil)⟩)⟩) rfl (by decide) (hts _ q559) (z_cast hs0 hG.1 zc_s) hce hcv hcl ?_
      show W p l e _ s m _ below meth c _ _ _ _ _ (F0 m 31 ls [.ref q9])
      refine lv_astore (lv' := [(9, .ref q9), (0, .ref (dA 0)), (1, .int p1), (2, .int p2), (3, .int p3), (4, .int p4), (5, .int p5), (6, .int p6), (7, .int p7), (8, .ref (oA 0))]) hx hb dL_addDuty_31 hl (by decide) rfl (fun ls hl => ?_)
      refine lv_iconst (v := 3) hx hb dL_addDuty_33 (by decide) ?_
      exact zW_iret C (3, d, w) rfl h hP hD hS (Nat.le_of_ble_eq_true rfl) (Nat.le_of_ble_eq_true rfl) dL_addDuty_34
  · intro u H locs h hP hD hS
    obtain ⟨r15, d15⟩ := u
    have hP : va_P D vwCl (wD cI dA bA aA tA d15 ++ [((oA 0), .inl (cJ, 1, .inr (.inl w)))]) H := hP
    have hD : va_D A (wD cI dA bA aA tA d15 ++ [((oA 0), .inl (cJ, 1, .inr (.inl w)))]) := hD
    refine lv_i2l hx hb dL_addDuty_18 rfl ?_
    refine va_last hx hb hK hP hD hS 22 2 rfl rfl (show ¬ ((0 : Int32) < 0 ∨ 1 ≤ (0 : Int32).toNatClampNeg) from by decide) dL_addDuty_19 (fun H locs hP hD hS => ?_)
    have hP : va_P D vwCl (wD cI dA bA aA tA d15 ++ [((oA 0), .inl (cJ, 1, .inr (.inl (vp_updL w (0 : Int32).toNatClampNeg r15.toInt64))))]) H := hP
    have hD : va_D A (wD cI dA bA aA tA d15 ++ [((oA 0), .inl (cJ, 1, .inr (.inl (vp_updL w (0 : Int32).toNatClampNeg r15.toInt64))))]) := hD
    refine lv_goto (tgt := 35) hx hb dL_addDuty_20 (by decide) ?_
    refine lv_iconst (v := 0) hx hb dL_addDuty_35 (by decide) ?_
    exact zW_iret C (0, d15, (vp_updL w (0 : Int32).toNatClampNeg r15.toInt64)) rfl h hP hD hS (Nat.le_of_ble_eq_true rfl) (Nat.le_of_ble_eq_true rfl) dL_addDuty_36
def wpL_pay (post : Int32 → DS → (Nat → Int64) → Prop) (d : DS) (w : (Nat → Int64)) (p1 : Int32) : Prop := wpX2_pay (fun r4 d4 => post 0 d4 (vp_updL w (0 : Int32).toNatClampNeg r4.toInt64)) (fun E9 : String => (E9 = "java/lang/IndexOutOfBoundsException" ∧ post 1 d w) ∨ (E9 = "java/lang/IllegalStateException" ∧ post 2 d w)) d p1
set_option maxHeartbeats 4000000 in
set_option maxRecDepth 100000 in
theorem c_L_pay {l : Launch} (hfl : l.stackTraces = false) {s0 : State} (hs0 : zS s0) (D : va_G) (cI cB cJ : ClassId) (dA : Nat → Nat) (bA : Nat → Nat) (aA : Nat → Nat) (tA : Nat → Nat) (oA : Nat → Nat) (d : DS) (w : (Nat → Int64)) (p1 : Int32) {post : Int32 → DS → (Nat → Int64) → Prop} (h : wpL_pay post d w p1) : zWH s0 l D (zty cI cB cJ) yL_pay cL_pay 4 (some .int) [(0, 9, 12, 21), (0, 9, 15, 15)] 8 2 12 [.ref (dA 0), .int p1, .ref (oA 0)] (wD cI dA bA aA tA d ++ [((oA 0), .inl (cJ, 1, .inr (.inl w)))]) (fun u : Int32 × DS × (Nat → Int64) => some (Value.int u.1)) (fun u : Int32 × DS × (Nat → Int64) => post u.1 u.2.1 u.2.2) (fun u : Int32 × DS × (Nat → Int64) => wD cI dA bA aA tA u.2.1 ++ [((oA 0), .inl (cJ, 1, .inr (.inl u.2.2)))]) := by
  refine zWH_intro (by decide +kernel) (Nat.le_of_ble_eq_true rfl) ?_
  intro p e s m below meth c A C htab hA hG hP hD hS ls hl
  have C : zC D (zty cI cB cJ) p s m ([.ref (dA 0), .int p1, .ref (oA 0)] : List Value).toArray meth c cL_pay RL (some .int) 4 := C
  have hx := C.1
  have hb := C.2.1
  have hts := C.2.2.1
  have hown := C.2.2.2.1
  have hml := C.2.2.2.2.2.1
  have hK := C.2.2.2.2.2.2.2
  have hl : lv_has ls 4 [(0, .ref (dA 0)), (1, .int p1), (2, .ref (oA 0))] := hl
  have hP : va_P D vwCl (wD cI dA bA aA tA d ++ [((oA 0), .inl (cJ, 1, .inr (.inl w)))]) s.heap := hP
  have hD : va_D A (wD cI dA bA aA tA d ++ [((oA 0), .inl (cJ, 1, .inr (.inl w)))]) := hD
  unfold wpL_pay at h
  refine lv_aload_n hx hb dL_pay_0 rfl (lv_at hl 2 rfl) ?_
  refine lv_iconst (v := 0) hx hb dL_pay_1 (by decide) ?_
  refine lv_aload_n hx hb dL_pay_2 rfl (lv_at hl 0 rfl) ?_
  refine lv_iload_n hx hb dL_pay_3 rfl (lv_at hl 1 rfl) ?_
  refine z_XV (As := [.int p1]) (rest := [.int 0, .ref (oA 0)]) (wr := (List.filterMap (fun i => (wD cI dA bA aA tA d ++ [((oA 0), .inl (cJ, 1, .inr (.inl w)))])[i]?) [22])) (wN := (fun u : Int32 × DS => wD cI dA bA aA tA u.2 ++ [((oA 0), .inl (cJ, 1, .inr (.inl w)))])) [0, 1, 2, 3, 4, 5, 6, 7, 8, 9, 10, 11, 12, 13, 14, 15, 16, 17, 18, 19, 20, 21] [22] [1, 2, 3, 4, 5, 6, 7, 8, 9, 10, 11, 12, 13, 14, 15, 16, 17, 18, 19, 20, 21, 22, 0] [1, 2, 3, 4, 5, 6, 7, 8, 9, 10, 11, 12, 13, 14, 15, 16, 17, 18, 19, 20, 21, 22, 0] C hG hA hP hD hS (x_X2_pay hfl hs0 D cI cB cJ dA bA aA tA d p1 h) q568 v_X2_pay rfl rfl ⟨by decide, by decide, by decide⟩ (by decide) (fun _ => rfl) rfl rfl rfl rfl ⟨(Nat.le_of_ble_eq_true rfl), (Nat.le_of_ble_eq_true rfl)⟩ ⟨(Nat.le_of_ble_eq_true rfl), (Nat.le_of_ble_eq_true rfl)⟩ hl.1 rfl (lv_room (Nat.le_of_ble_eq_true rfl)) dL_pay_4 ?_ ?_
  · intro E ce q9 H locs hE hP hS hce hcv hcl
    have hP : va_P D vwCl (wD cI dA bA aA tA d ++ [((oA 0), .inl (cJ, 1, .inr (.inl w)))]) H := hP
    rcases hE with ⟨rfl, h⟩ | ⟨rfl, h⟩
    · refine vx_catch hown [] ⟨0, 9, 12, 21⟩ [⟨0, 9, 15, 15⟩] (htab.trans rfl) (fun z hz => absurd hz List.not_mem_nil) rfl (by decide) (hts _ q564) (z_cast hs0 hG.1 zc_i) hce hcv hcl ?_
      show W p l e _ s m _ below meth c _ _ _ _ _ (F0 m 12 ls [.ref q9])
      refine lv_astore_n (lv' := [(3, .ref q9), (0, .ref (dA 0)), (1, .int p1), (2, .ref (oA 0))]) hx hb dL_pay_12 rfl hl (by decide) rfl (fun ls hl => ?_)
      refine lv_iconst (v := 1) hx hb dL_pay_13 (by decide) ?_
      exact zW_iret C (1, d, w) rfl h hP hD hS (Nat.le_of_ble_eq_true rfl) (Nat.le_of_ble_eq_true rfl) dL_pay_14
    · refine vx_catch hown [⟨0, 9, 12, 21⟩] ⟨0, 9, 15, 15⟩ [] (htab.trans rfl) (List.forall_mem_cons.mpr ⟨Or.inr ⟨by decide, "java/lang/IndexOutOfBoundsException", hts _ q564, z_ncast hs0 hG.1 zn_si⟩, (fun z hz => absurd hz List.not_mem_nil)⟩) rfl (by decide) (hts _ q559) (z_cast hs0 hG.1 zc_s) hce hcv hcl ?_
      show W p l e _ s m _ below meth c _ _ _ _ _ (F0 m 15 ls [.ref q9])
      refine lv_astore_n (lv' := [(3, .ref q9), (0, .ref (dA 0)), (1, .int p1), (2, .ref (oA 0))]) hx hb dL_pay_15 rfl hl (by decide) rfl (fun ls hl => ?_)
      refine lv_iconst (v := 2) hx hb dL_pay_16 (by decide) ?_
      exact zW_iret C (2, d, w) rfl h hP hD hS (Nat.le_of_ble_eq_true rfl) (Nat.le_of_ble_eq_true rfl) dL_pay_17
  · intro u H locs h hP hD hS
    obtain ⟨r4, d4⟩ := u
    have hP : va_P D vwCl (wD cI dA bA aA tA d4 ++ [((oA 0), .inl (cJ, 1, .inr (.inl w)))]) H := hP
    have hD : va_D A (wD cI dA bA aA tA d4 ++ [((oA 0), .inl (cJ, 1, .inr (.inl w)))]) := hD
    refine lv_i2l hx hb dL_pay_7 rfl ?_
    refine va_last hx hb hK hP hD hS 22 2 rfl rfl (show ¬ ((0 : Int32) < 0 ∨ 1 ≤ (0 : Int32).toNatClampNeg) from by decide) dL_pay_8 (fun H locs hP hD hS => ?_)
    have hP : va_P D vwCl (wD cI dA bA aA tA d4 ++ [((oA 0), .inl (cJ, 1, .inr (.inl (vp_updL w (0 : Int32).toNatClampNeg r4.toInt64))))]) H := hP
    have hD : va_D A (wD cI dA bA aA tA d4 ++ [((oA 0), .inl (cJ, 1, .inr (.inl (vp_updL w (0 : Int32).toNatClampNeg r4.toInt64))))]) := hD
    refine lv_goto (tgt := 18) hx hb dL_pay_9 (by decide) ?_
    refine lv_iconst (v := 0) hx hb dL_pay_18 (by decide) ?_
    exact zW_iret C (0, d4, (vp_updL w (0 : Int32).toNatClampNeg r4.toInt64)) rfl h hP hD hS (Nat.le_of_ble_eq_true rfl) (Nat.le_of_ble_eq_true rfl) dL_pay_19
def wpL_release (post : Int32 → DS → (Nat → Int64) → Prop) (d : DS) (w : (Nat → Int64)) (p1 : Int32) : Prop := wpX2_release (fun r4 d4 => post 0 d4 (vp_updL w (0 : Int32).toNatClampNeg r4.toInt64)) (fun E9 : String => (E9 = "java/lang/IndexOutOfBoundsException" ∧ post 1 d w) ∨ (E9 = "java/lang/IllegalStateException" ∧ post 2 d w)) d p1
set_option maxHeartbeats 4000000 in
set_option maxRecDepth 100000 in
theorem c_L_release {l : Launch} (hfl : l.stackTraces = false) {s0 : State} (hs0 : zS s0) (D : va_G) (cI cB cJ : ClassId) (dA : Nat → Nat) (bA : Nat → Nat) (aA : Nat → Nat) (tA : Nat → Nat) (oA : Nat → Nat) (d : DS) (w : (Nat → Int64)) (p1 : Int32) {post : Int32 → DS → (Nat → Int64) → Prop} (h : wpL_release post d w p1) : zWH s0 l D (zty cI cB cJ) yL_release cL_release 4 (some .int) [(0, 9, 12, 21), (0, 9, 15, 15)] 8 2 12 [.ref (dA 0), .int p1, .ref (oA 0)] (wD cI dA bA aA tA d ++ [((oA 0), .inl (cJ, 1, .inr (.inl w)))]) (fun u : Int32 × DS × (Nat → Int64) => some (Value.int u.1)) (fun u : Int32 × DS × (Nat → Int64) => post u.1 u.2.1 u.2.2) (fun u : Int32 × DS × (Nat → Int64) => wD cI dA bA aA tA u.2.1 ++ [((oA 0), .inl (cJ, 1, .inr (.inl u.2.2)))]) := by
  refine zWH_intro (by decide +kernel) (Nat.le_of_ble_eq_true rfl) ?_
  intro p e s m below meth c A C htab hA hG hP hD hS ls hl
  have C : zC D (zty cI cB cJ) p s m ([.ref (dA 0), .int p1, .ref (oA 0)] : List Value).toArray meth c cL_release RL (some .int) 4 := C
  have hx := C.1
  have hb := C.2.1
  have hts := C.2.2.1
  have hown := C.2.2.2.1
  have hml := C.2.2.2.2.2.1
  have hK := C.2.2.2.2.2.2.2
  have hl : lv_has ls 4 [(0, .ref (dA 0)), (1, .int p1), (2, .ref (oA 0))] := hl
  have hP : va_P D vwCl (wD cI dA bA aA tA d ++ [((oA 0), .inl (cJ, 1, .inr (.inl w)))]) s.heap := hP
  have hD : va_D A (wD cI dA bA aA tA d ++ [((oA 0), .inl (cJ, 1, .inr (.inl w)))]) := hD
  unfold wpL_release at h
  refine lv_aload_n hx hb dL_release_0 rfl (lv_at hl 2 rfl) ?_
  refine lv_iconst (v := 0) hx hb dL_release_1 (by decide) ?_
  refine lv_aload_n hx hb dL_release_2 rfl (lv_at hl 0 rfl) ?_
  refine lv_iload_n hx hb dL_release_3 rfl (lv_at hl 1 rfl) ?_
  refine z_XV (As := [.int p1]) (rest := [.int 0, .ref (oA 0)]) (wr := (List.filterMap (fun i => (wD cI dA bA aA tA d ++ [((oA 0), .inl (cJ, 1, .inr (.inl w)))])[i]?) [22])) (wN := (fun u : Int32 × DS => wD cI dA bA aA tA u.2 ++ [((oA 0), .inl (cJ, 1, .inr (.inl w)))])) [0, 1, 2, 3, 4, 5, 6, 7, 8, 9, 10, 11, 12, 13, 14, 15, 16, 17, 18, 19, 20, 21] [22] [1, 2, 3, 4, 5, 6, 7, 8, 9, 10, 11, 12, 13, 14, 15, 16, 17, 18, 19, 20, 21, 22, 0] [1, 2, 3, 4, 5, 6, 7, 8, 9, 10, 11, 12, 13, 14, 15, 16, 17, 18, 19, 20, 21, 22, 0] C hG hA hP hD hS (x_X2_release hfl hs0 D cI cB cJ dA bA aA tA d p1 h) q572 v_X2_release rfl rfl ⟨by decide, by decide, by decide⟩ (by decide) (fun _ => rfl) rfl rfl rfl rfl ⟨(Nat.le_of_ble_eq_true rfl), (Nat.le_of_ble_eq_true rfl)⟩ ⟨(Nat.le_of_ble_eq_true rfl), (Nat.le_of_ble_eq_true rfl)⟩ hl.1 rfl (lv_room (Nat.le_of_ble_eq_true rfl)) dL_release_4 ?_ ?_
  · intro E ce q9 H locs hE hP hS hce hcv hcl
    have hP : va_P D vwCl (wD cI dA bA aA tA d ++ [((oA 0), .inl (cJ, 1, .inr (.inl w)))]) H := hP
    rcases hE with ⟨rfl, h⟩ | ⟨rfl, h⟩
    · refine vx_catch hown [] ⟨0, 9, 12, 21⟩ [⟨0, 9, 15, 15⟩] (htab.trans rfl) (fun z hz => absurd hz List.not_mem_nil) rfl (by decide) (hts _ q564) (z_cast hs0 hG.1 zc_i) hce hcv hcl ?_
      show W p l e _ s m _ below meth c _ _ _ _ _ (F0 m 12 ls [.ref q9])
      refine lv_astore_n (lv' := [(3, .ref q9), (0, .ref (dA 0)), (1, .int p1), (2, .ref (oA 0))]) hx hb dL_release_12 rfl hl (by decide) rfl (fun ls hl => ?_)
      refine lv_iconst (v := 1) hx hb dL_release_13 (by decide) ?_
      exact zW_iret C (1, d, w) rfl h hP hD hS (Nat.le_of_ble_eq_true rfl) (Nat.le_of_ble_eq_true rfl) dL_release_14
    · refine vx_catch hown [⟨0, 9, 12, 21⟩] ⟨0, 9, 15, 15⟩ [] (htab.trans rfl) (List.forall_mem_cons.mpr ⟨Or.inr ⟨by decide, "java/lang/IndexOutOfBoundsException", hts _ q564, z_ncast hs0 hG.1 zn_si⟩, (fun z hz => absurd hz List.not_mem_nil)⟩) rfl (by decide) (hts _ q559) (z_cast hs0 hG.1 zc_s) hce hcv hcl ?_
      show W p l e _ s m _ below meth c _ _ _ _ _ (F0 m 15 ls [.ref q9])
      refine lv_astore_n (lv' := [(3, .ref q9), (0, .ref (dA 0)), (1, .int p1), (2, .ref (oA 0))]) hx hb dL_release_15 rfl hl (by decide) rfl (fun ls hl => ?_)
      refine lv_iconst (v := 2) hx hb dL_release_16 (by decide) ?_
      exact zW_iret C (2, d, w) rfl h hP hD hS (Nat.le_of_ble_eq_true rfl) (Nat.le_of_ble_eq_true rfl) dL_release_17
  · intro u H locs h hP hD hS
    obtain ⟨r4, d4⟩ := u
    have hP : va_P D vwCl (wD cI dA bA aA tA d4 ++ [((oA 0), .inl (cJ, 1, .inr (.inl w)))]) H := hP
    have hD : va_D A (wD cI dA bA aA tA d4 ++ [((oA 0), .inl (cJ, 1, .inr (.inl w)))]) := hD
    refine lv_i2l hx hb dL_release_7 rfl ?_
    refine va_last hx hb hK hP hD hS 22 2 rfl rfl (show ¬ ((0 : Int32) < 0 ∨ 1 ≤ (0 : Int32).toNatClampNeg) from by decide) dL_release_8 (fun H locs hP hD hS => ?_)
    have hP : va_P D vwCl (wD cI dA bA aA tA d4 ++ [((oA 0), .inl (cJ, 1, .inr (.inl (vp_updL w (0 : Int32).toNatClampNeg r4.toInt64))))]) H := hP
    have hD : va_D A (wD cI dA bA aA tA d4 ++ [((oA 0), .inl (cJ, 1, .inr (.inl (vp_updL w (0 : Int32).toNatClampNeg r4.toInt64))))]) := hD
    refine lv_goto (tgt := 18) hx hb dL_release_9 (by decide) ?_
    refine lv_iconst (v := 0) hx hb dL_release_18 (by decide) ?_
    exact zW_iret C (0, d4, (vp_updL w (0 : Int32).toNatClampNeg r4.toInt64)) rfl h hP hD hS (Nat.le_of_ble_eq_true rfl) (Nat.le_of_ble_eq_true rfl) dL_release_19
def wpL_stop (post : Int32 → DS → (Nat → Int64) → Prop) (d : DS) (w : (Nat → Int64)) (p1 : Int32) (p2 : Int32) : Prop := wpX2_stop (fun r5 d5 => post 0 d5 (vp_updL w (0 : Int32).toNatClampNeg r5.toInt64)) (fun E9 : String => (E9 = "java/lang/IndexOutOfBoundsException" ∧ post 1 d w) ∨ (E9 = "java/lang/IllegalArgumentException" ∧ post 2 d w) ∨ (E9 = "java/lang/IllegalStateException" ∧ post 3 d w)) d p1 p2
set_option maxHeartbeats 4000000 in
set_option maxRecDepth 100000 in
theorem c_L_stop {l : Launch} (hfl : l.stackTraces = false) {s0 : State} (hs0 : zS s0) (D : va_G) (cI cB cJ : ClassId) (dA : Nat → Nat) (bA : Nat → Nat) (aA : Nat → Nat) (tA : Nat → Nat) (oA : Nat → Nat) (d : DS) (w : (Nat → Int64)) (p1 : Int32) (p2 : Int32) {post : Int32 → DS → (Nat → Int64) → Prop} (h : wpL_stop post d w p1 p2) : zWH s0 l D (zty cI cB cJ) yL_stop cL_stop 5 (some .int) [(0, 10, 13, 21), (0, 10, 17, 13), (0, 10, 21, 15)] 8 3 18 [.ref (dA 0), .int p1, .int p2, .ref (oA 0)] (wD cI dA bA aA tA d ++ [((oA 0), .inl (cJ, 1, .inr (.inl w)))]) (fun u : Int32 × DS × (Nat → Int64) => some (Value.int u.1)) (fun u : Int32 × DS × (Nat → Int64) => post u.1 u.2.1 u.2.2) (fun u : Int32 × DS × (Nat → Int64) => wD cI dA bA aA tA u.2.1 ++ [((oA 0), .inl (cJ, 1, .inr (.inl u.2.2)))]) := by
  refine zWH_intro (by decide +kernel) (Nat.le_of_ble_eq_true rfl) ?_
  intro p e s m below meth c A C htab hA hG hP hD hS ls hl
  have C : zC D (zty cI cB cJ) p s m ([.ref (dA 0), .int p1, .int p2, .ref (oA 0)] : List Value).toArray meth c cL_stop RL (some .int) 5 := C
  have hx := C.1
  have hb := C.2.1
  have hts := C.2.2.1
  have hown := C.2.2.2.1
  have hml := C.2.2.2.2.2.1
  have hK := C.2.2.2.2.2.2.2
  have hl : lv_has ls 5 [(0, .ref (dA 0)), (1, .int p1), (2, .int p2), (3, .ref (oA 0))] := hl
  have hP : va_P D vwCl (wD cI dA bA aA tA d ++ [((oA 0), .inl (cJ, 1, .inr (.inl w)))]) s.heap := hP
  have hD : va_D A (wD cI dA bA aA tA d ++ [((oA 0), .inl (cJ, 1, .inr (.inl w)))]) := hD
  unfold wpL_stop at h
  refine lv_aload_n hx hb dL_stop_0 rfl (lv_at hl 3 rfl) ?_
  refine lv_iconst (v := 0) hx hb dL_stop_1 (by decide) ?_
  refine lv_aload_n hx hb dL_stop_2 rfl (lv_at hl 0 rfl) ?_
  refine lv_iload_n hx hb dL_stop_3 rfl (lv_at hl 1 rfl) ?_
  refine lv_iload_n hx hb dL_stop_4 rfl (lv_at hl 2 rfl) ?_
  refine z_XV (As := [.int p1, .int p2]) (rest := [.int 0, .ref (oA 0)]) (wr := (List.filterMap (fun i => (wD cI dA bA aA tA d ++ [((oA 0), .inl (cJ, 1, .inr (.inl w)))])[i]?) [22])) (wN := (fun u : Int32 × DS => wD cI dA bA aA tA u.2 ++ [((oA 0), .inl (cJ, 1, .inr (.inl w)))])) [0, 1, 2, 3, 4, 5, 6, 7, 8, 9, 10, 11, 12, 13, 14, 15, 16, 17, 18, 19, 20, 21] [22] [1, 2, 3, 4, 5, 6, 7, 8, 9, 10, 11, 12, 13, 14, 15, 16, 17, 18, 19, 20, 21, 22, 0] [1, 2, 3, 4, 5, 6, 7, 8, 9, 10, 11, 12, 13, 14, 15, 16, 17, 18, 19, 20, 21, 22, 0] C hG hA hP hD hS (x_X2_stop hfl hs0 D cI cB cJ dA bA aA tA d p1 p2 h) q576 v_X2_stop rfl rfl ⟨by decide, by decide, by decide⟩ (by decide) (fun _ => rfl) rfl rfl rfl rfl ⟨(Nat.le_of_ble_eq_true rfl), (Nat.le_of_ble_eq_true rfl)⟩ ⟨(Nat.le_of_ble_eq_true rfl), (Nat.le_of_ble_eq_true rfl)⟩ hl.1 rfl (lv_room (Nat.le_of_ble_eq_true rfl)) dL_stop_5 ?_ ?_
  · intro E ce q9 H locs hE hP hS hce hcv hcl
    have hP : va_P D vwCl (wD cI dA bA aA tA d ++ [((oA 0), .inl (cJ, 1, .inr (.inl w)))]) H := hP
    rcases hE with ⟨rfl, h⟩ | ⟨rfl, h⟩ | ⟨rfl, h⟩
    · refine vx_catch hown [] ⟨0, 10, 13, 21⟩ [⟨0, 10, 17, 13⟩, ⟨0, 10, 21, 15⟩] (htab.trans rfl) (fun z hz => absurd hz List.not_mem_nil) rfl (by decide) (hts _ q564) (z_cast hs0 hG.1 zc_i) hce hcv hcl ?_
      show W p l e _ s m _ below meth c _ _ _ _ _ (F0 m 13 ls [.ref q9])
      refine lv_astore (lv' := [(4, .ref q9), (0, .ref (dA 0)), (1, .int p1), (2, .int p2), (3, .ref (oA 0))]) hx hb dL_stop_13 hl (by decide) rfl (fun ls hl => ?_)
      refine lv_iconst (v := 1) hx hb dL_stop_15 (by decide) ?_
      exact zW_iret C (1, d, w) rfl h hP hD hS (Nat.le_of_ble_eq_true rfl) (Nat.le_of_ble_eq_true rfl) dL_stop_16
    · refine vx_catch hown [⟨0, 10, 13, 21⟩] ⟨0, 10, 17, 13⟩ [⟨0, 10, 21, 15⟩] (htab.trans rfl) (List.forall_mem_cons.mpr ⟨Or.inr ⟨by decide, "java/lang/IndexOutOfBoundsException", hts _ q564, z_ncast hs0 hG.1 zn_ai⟩, (fun z hz => absurd hz List.not_mem_nil)⟩) rfl (by decide) (hts _ q558) (z_cast hs0 hG.1 zc_a) hce hcv hcl ?_
      show W p l e _ s m _ below meth c _ _ _ _ _ (F0 m 17 ls [.ref q9])
      refine lv_astore (lv' := [(4, .ref q9), (0, .ref (dA 0)), (1, .int p1), (2, .int p2), (3, .ref (oA 0))]) hx hb dL_stop_17 hl (by decide) rfl (fun ls hl => ?_)
      refine lv_iconst (v := 2) hx hb dL_stop_19 (by decide) ?_
      exact zW_iret C (2, d, w) rfl h hP hD hS (Nat.le_of_ble_eq_true rfl) (Nat.le_of_ble_eq_true rfl) dL_stop_20
    · refine vx_catch hown [⟨0, 10, 13, 21⟩, ⟨0, 10, 17, 13⟩] ⟨0, 10, 21, 15⟩ [] (htab.trans rfl) (List.forall_mem_cons.mpr ⟨Or.inr ⟨by decide, "java/lang/IndexOutOfBoundsException", hts _ q564, z_ncast hs0 hG.1 zn_si⟩, (List.forall_mem_cons.mpr ⟨Or.inr ⟨by decide, "java/lang/IllegalArgumentException", hts _ q558, z_ncast hs0 hG.1 zn_sa⟩, (fun z hz => absurd hz List.not_mem_nil)⟩)⟩) rfl (by decide) (hts _ q559) (z_cast hs0 hG.1 zc_s) hce hcv hcl ?_
      show W p l e _ s m _ below meth c _ _ _ _ _ (F0 m 21 ls [.ref q9])
      refine lv_astore (lv' := [(4, .ref q9), (0, .ref (dA 0)), (1, .int p1), (2, .int p2), (3, .ref (oA 0))]) hx hb dL_stop_21 hl (by decide) rfl (fun ls hl => ?_)
      refine lv_iconst (v := 3) hx hb dL_stop_23 (by decide) ?_
      exact zW_iret C (3, d, w) rfl h hP hD hS (Nat.le_of_ble_eq_true rfl) (Nat.le_of_ble_eq_true rfl) dL_stop_24
  · intro u H locs h hP hD hS
    obtain ⟨r5, d5⟩ := u
    have hP : va_P D vwCl (wD cI dA bA aA tA d5 ++ [((oA 0), .inl (cJ, 1, .inr (.inl w)))]) H := hP
    have hD : va_D A (wD cI dA bA aA tA d5 ++ [((oA 0), .inl (cJ, 1, .inr (.inl w)))]) := hD
    refine lv_i2l hx hb dL_stop_8 rfl ?_
    refine va_last hx hb hK hP hD hS 22 2 rfl rfl (show ¬ ((0 : Int32) < 0 ∨ 1 ≤ (0 : Int32).toNatClampNeg) from by decide) dL_stop_9 (fun H locs hP hD hS => ?_)
    have hP : va_P D vwCl (wD cI dA bA aA tA d5 ++ [((oA 0), .inl (cJ, 1, .inr (.inl (vp_updL w (0 : Int32).toNatClampNeg r5.toInt64))))]) H := hP
    have hD : va_D A (wD cI dA bA aA tA d5 ++ [((oA 0), .inl (cJ, 1, .inr (.inl (vp_updL w (0 : Int32).toNatClampNeg r5.toInt64))))]) := hD
    refine lv_goto (tgt := 25) hx hb dL_stop_10 (by decide) ?_
    refine lv_iconst (v := 0) hx hb dL_stop_25 (by decide) ?_
    exact zW_iret C (0, d5, (vp_updL w (0 : Int32).toNatClampNeg r5.toInt64)) rfl h hP hD hS (Nat.le_of_ble_eq_true rfl) (Nat.le_of_ble_eq_true rfl) dL_stop_26
def wpL_give (post : Int32 → DS → (Nat → Int64) → Prop) (d : DS) (w : (Nat → Int64)) (p1 : Int32) (p2 : Int32) : Prop := wpX2_give (fun r5 d5 => post 0 d5 (vp_updL w (0 : Int32).toNatClampNeg r5.toInt64)) (fun E9 : String => (E9 = "java/lang/IndexOutOfBoundsException" ∧ post 1 d w) ∨ (E9 = "java/lang/IllegalArgumentException" ∧ post 2 d w)) d p1 p2
set_option maxHeartbeats 4000000 in
set_option maxRecDepth 100000 in
theorem c_L_give {l : Launch} (hfl : l.stackTraces = false) {s0 : State} (hs0 : zS s0) (D : va_G) (cI cB cJ : ClassId) (dA : Nat → Nat) (bA : Nat → Nat) (aA : Nat → Nat) (tA : Nat → Nat) (oA : Nat → Nat) (d : DS) (w : (Nat → Int64)) (p1 : Int32) (p2 : Int32) {post : Int32 → DS → (Nat → Int64) → Prop} (h : wpL_give post d w p1 p2) : zWH s0 l D (zty cI cB cJ) yL_give cL_give 5 (some .int) [(0, 10, 13, 21), (0, 10, 17, 13)] 8 2 12 [.ref (dA 0), .int p1, .int p2, .ref (oA 0)] (wD cI dA bA aA tA d ++ [((oA 0), .inl (cJ, 1, .inr (.inl w)))]) (fun u : Int32 × DS × (Nat → Int64) => some (Value.int u.1)) (fun u : Int32 × DS × (Nat → Int64) => post u.1 u.2.1 u.2.2) (fun u : Int32 × DS × (Nat → Int64) => wD cI dA bA aA tA u.2.1 ++ [((oA 0), .inl (cJ, 1, .inr (.inl u.2.2)))]) := by
  refine zWH_intro (by decide +kernel) (Nat.le_of_ble_eq_true rfl) ?_
  intro p e s m below meth c A C htab hA hG hP hD hS ls hl
  have C : zC D (zty cI cB cJ) p s m ([.ref (dA 0), .int p1, .int p2, .ref (oA 0)] : List Value).toArray meth c cL_give RL (some .int) 5 := C
  have hx := C.1
  have hb := C.2.1
  have hts := C.2.2.1
  have hown := C.2.2.2.1
  have hml := C.2.2.2.2.2.1
  have hK := C.2.2.2.2.2.2.2
  have hl : lv_has ls 5 [(0, .ref (dA 0)), (1, .int p1), (2, .int p2), (3, .ref (oA 0))] := hl
  have hP : va_P D vwCl (wD cI dA bA aA tA d ++ [((oA 0), .inl (cJ, 1, .inr (.inl w)))]) s.heap := hP
  have hD : va_D A (wD cI dA bA aA tA d ++ [((oA 0), .inl (cJ, 1, .inr (.inl w)))]) := hD
  unfold wpL_give at h
  refine lv_aload_n hx hb dL_give_0 rfl (lv_at hl 3 rfl) ?_
  refine lv_iconst (v := 0) hx hb dL_give_1 (by decide) ?_
  refine lv_aload_n hx hb dL_give_2 rfl (lv_at hl 0 rfl) ?_
  refine lv_iload_n hx hb dL_give_3 rfl (lv_at hl 1 rfl) ?_
  refine lv_iload_n hx hb dL_give_4 rfl (lv_at hl 2 rfl) ?_
  refine z_XV (As := [.int p1, .int p2]) (rest := [.int 0, .ref (oA 0)]) (wr := (List.filterMap (fun i => (wD cI dA bA aA tA d ++ [((oA 0), .inl (cJ, 1, .inr (.inl w)))])[i]?) [22])) (wN := (fun u : Int32 × DS => wD cI dA bA aA tA u.2 ++ [((oA 0), .inl (cJ, 1, .inr (.inl w)))])) [0, 1, 2, 3, 4, 5, 6, 7, 8, 9, 10, 11, 12, 13, 14, 15, 16, 17, 18, 19, 20, 21] [22] [1, 2, 3, 4, 5, 6, 7, 8, 9, 10, 11, 12, 13, 14, 15, 16, 17, 18, 19, 20, 21, 22, 0] [1, 2, 3, 4, 5, 6, 7, 8, 9, 10, 11, 12, 13, 14, 15, 16, 17, 18, 19, 20, 21, 22, 0] C hG hA hP hD hS (x_X2_give hfl hs0 D cI cB cJ dA bA aA tA d p1 p2 h) q580 v_X2_give rfl rfl ⟨by decide, by decide, by decide⟩ (by decide) (fun _ => rfl) rfl rfl rfl rfl ⟨(Nat.le_of_ble_eq_true rfl), (Nat.le_of_ble_eq_true rfl)⟩ ⟨(Nat.le_of_ble_eq_true rfl), (Nat.le_of_ble_eq_true rfl)⟩ hl.1 rfl (lv_room (Nat.le_of_ble_eq_true rfl)) dL_give_5 ?_ ?_
  · intro E ce q9 H locs hE hP hS hce hcv hcl
    have hP : va_P D vwCl (wD cI dA bA aA tA d ++ [((oA 0), .inl (cJ, 1, .inr (.inl w)))]) H := hP
    rcases hE with ⟨rfl, h⟩ | ⟨rfl, h⟩
    · refine vx_catch hown [] ⟨0, 10, 13, 21⟩ [⟨0, 10, 17, 13⟩] (htab.trans rfl) (fun z hz => absurd hz List.not_mem_nil) rfl (by decide) (hts _ q564) (z_cast hs0 hG.1 zc_i) hce hcv hcl ?_
      show W p l e _ s m _ below meth c _ _ _ _ _ (F0 m 13 ls [.ref q9])
      refine lv_astore (lv' := [(4, .ref q9), (0, .ref (dA 0)), (1, .int p1), (2, .int p2), (3, .ref (oA 0))]) hx hb dL_give_13 hl (by decide) rfl (fun ls hl => ?_)
      refine lv_iconst (v := 1) hx hb dL_give_15 (by decide) ?_
      exact zW_iret C (1, d, w) rfl h hP hD hS (Nat.le_of_ble_eq_true rfl) (Nat.le_of_ble_eq_true rfl) dL_give_16
    · refine vx_catch hown [⟨0, 10, 13, 21⟩] ⟨0, 10, 17, 13⟩ [] (htab.trans rfl) (List.forall_mem_cons.mpr ⟨Or.inr ⟨by decide, "java/lang/IndexOutOfBoundsException", hts _ q564, z_ncast hs0 hG.1 zn_ai⟩, (fun z hz => absurd hz List.not_mem_nil)⟩) rfl (by decide) (hts _ q558) (z_cast hs0 hG.1 zc_a) hce hcv hcl ?_
      show W p l e _ s m _ below meth c _ _ _ _ _ (F0 m 17 ls [.ref q9])
      refine lv_astore (lv' := [(4, .ref q9), (0, .ref (dA 0)), (1, .int p1), (2, .int p2), (3, .ref (oA 0))]) hx hb dL_give_17 hl (by decide) rfl (fun ls hl => ?_)
      refine lv_iconst (v := 2) hx hb dL_give_19 (by decide) ?_
      exact zW_iret C (2, d, w) rfl h hP hD hS (Nat.le_of_ble_eq_true rfl) (Nat.le_of_ble_eq_true rfl) dL_give_20
  · intro u H locs h hP hD hS
    obtain ⟨r5, d5⟩ := u
    have hP : va_P D vwCl (wD cI dA bA aA tA d5 ++ [((oA 0), .inl (cJ, 1, .inr (.inl w)))]) H := hP
    have hD : va_D A (wD cI dA bA aA tA d5 ++ [((oA 0), .inl (cJ, 1, .inr (.inl w)))]) := hD
    refine lv_i2l hx hb dL_give_8 rfl ?_
    refine va_last hx hb hK hP hD hS 22 2 rfl rfl (show ¬ ((0 : Int32) < 0 ∨ 1 ≤ (0 : Int32).toNatClampNeg) from by decide) dL_give_9 (fun H locs hP hD hS => ?_)
    have hP : va_P D vwCl (wD cI dA bA aA tA d5 ++ [((oA 0), .inl (cJ, 1, .inr (.inl (vp_updL w (0 : Int32).toNatClampNeg r5.toInt64))))]) H := hP
    have hD : va_D A (wD cI dA bA aA tA d5 ++ [((oA 0), .inl (cJ, 1, .inr (.inl (vp_updL w (0 : Int32).toNatClampNeg r5.toInt64))))]) := hD
    refine lv_goto (tgt := 21) hx hb dL_give_10 (by decide) ?_
    refine lv_iconst (v := 0) hx hb dL_give_21 (by decide) ?_
    exact zW_iret C (0, d5, (vp_updL w (0 : Int32).toNatClampNeg r5.toInt64)) rfl h hP hD hS (Nat.le_of_ble_eq_true rfl) (Nat.le_of_ble_eq_true rfl) dL_give_22
def wpL_pass (post : Int32 → DS → (Nat → Int64) → Prop) (d : DS) (w : (Nat → Int64)) (p1 : Int32) : Prop := wpX2_pass (fun r4 d4 => post 0 d4 (vp_updL w (0 : Int32).toNatClampNeg r4.toInt64)) (fun E9 : String => (E9 = "java/lang/IllegalArgumentException" ∧ post 1 d w)) d p1
set_option maxHeartbeats 4000000 in
set_option maxRecDepth 100000 in
theorem c_L_pass {l : Launch} (hfl : l.stackTraces = false) {s0 : State} (hs0 : zS s0) (D : va_G) (cI cB cJ : ClassId) (dA : Nat → Nat) (bA : Nat → Nat) (aA : Nat → Nat) (tA : Nat → Nat) (oA : Nat → Nat) (d : DS) (w : (Nat → Int64)) (p1 : Int32) {post : Int32 → DS → (Nat → Int64) → Prop} (h : wpL_pass post d w p1) : zWH s0 l D (zty cI cB cJ) yL_pass cL_pass 4 (some .int) [(0, 9, 12, 13)] 8 1 6 [.ref (dA 0), .int p1, .ref (oA 0)] (wD cI dA bA aA tA d ++ [((oA 0), .inl (cJ, 1, .inr (.inl w)))]) (fun u : Int32 × DS × (Nat → Int64) => some (Value.int u.1)) (fun u : Int32 × DS × (Nat → Int64) => post u.1 u.2.1 u.2.2) (fun u : Int32 × DS × (Nat → Int64) => wD cI dA bA aA tA u.2.1 ++ [((oA 0), .inl (cJ, 1, .inr (.inl u.2.2)))]) := by
  refine zWH_intro (by decide +kernel) (Nat.le_of_ble_eq_true rfl) ?_
  intro p e s m below meth c A C htab hA hG hP hD hS ls hl
  have C : zC D (zty cI cB cJ) p s m ([.ref (dA 0), .int p1, .ref (oA 0)] : List Value).toArray meth c cL_pass RL (some .int) 4 := C
  have hx := C.1
  have hb := C.2.1
  have hts := C.2.2.1
  have hown := C.2.2.2.1
  have hml := C.2.2.2.2.2.1
  have hK := C.2.2.2.2.2.2.2
  have hl : lv_has ls 4 [(0, .ref (dA 0)), (1, .int p1), (2, .ref (oA 0))] := hl
  have hP : va_P D vwCl (wD cI dA bA aA tA d ++ [((oA 0), .inl (cJ, 1, .inr (.inl w)))]) s.heap := hP
  have hD : va_D A (wD cI dA bA aA tA d ++ [((oA 0), .inl (cJ, 1, .inr (.inl w)))]) := hD
  unfold wpL_pass at h
  refine lv_aload_n hx hb dL_pass_0 rfl (lv_at hl 2 rfl) ?_
  refine lv_iconst (v := 0) hx hb dL_pass_1 (by decide) ?_
  refine lv_aload_n hx hb dL_pass_2 rfl (lv_at hl 0 rfl) ?_
  refine lv_iload_n hx hb dL_pass_3 rfl (lv_at hl 1 rfl) ?_
  refine z_XV (As := [.int p1]) (rest := [.int 0, .ref (oA 0)]) (wr := (List.filterMap (fun i => (wD cI dA bA aA tA d ++ [((oA 0), .inl (cJ, 1, .inr (.inl w)))])[i]?) [22])) (wN := (fun u : Int32 × DS => wD cI dA bA aA tA u.2 ++ [((oA 0), .inl (cJ, 1, .inr (.inl w)))])) [0, 1, 2, 3, 4, 5, 6, 7, 8, 9, 10, 11, 12, 13, 14, 15, 16, 17, 18, 19, 20, 21] [22] [1, 2, 3, 4, 5, 6, 7, 8, 9, 10, 11, 12, 13, 14, 15, 16, 17, 18, 19, 20, 21, 22, 0] [1, 2, 3, 4, 5, 6, 7, 8, 9, 10, 11, 12, 13, 14, 15, 16, 17, 18, 19, 20, 21, 22, 0] C hG hA hP hD hS (x_X2_pass hfl hs0 D cI cB cJ dA bA aA tA d p1 h) q584 v_X2_pass rfl rfl ⟨by decide, by decide, by decide⟩ (by decide) (fun _ => rfl) rfl rfl rfl rfl ⟨(Nat.le_of_ble_eq_true rfl), (Nat.le_of_ble_eq_true rfl)⟩ ⟨(Nat.le_of_ble_eq_true rfl), (Nat.le_of_ble_eq_true rfl)⟩ hl.1 rfl (lv_room (Nat.le_of_ble_eq_true rfl)) dL_pass_4 ?_ ?_
  · intro E ce q9 H locs hE hP hS hce hcv hcl
    have hP : va_P D vwCl (wD cI dA bA aA tA d ++ [((oA 0), .inl (cJ, 1, .inr (.inl w)))]) H := hP
    rcases hE with ⟨rfl, h⟩
    refine vx_catch hown [] ⟨0, 9, 12, 13⟩ [] (htab.trans rfl) (fun z hz => absurd hz List.not_mem_nil) rfl (by decide) (hts _ q558) (z_cast hs0 hG.1 zc_a) hce hcv hcl ?_
    show W p l e _ s m _ below meth c _ _ _ _ _ (F0 m 12 ls [.ref q9])
    refine lv_astore_n (lv' := [(3, .ref q9), (0, .ref (dA 0)), (1, .int p1), (2, .ref (oA 0))]) hx hb dL_pass_12 rfl hl (by decide) rfl (fun ls hl => ?_)
    refine lv_iconst (v := 1) hx hb dL_pass_13 (by decide) ?_
    exact zW_iret C (1, d, w) rfl h hP hD hS (Nat.le_of_ble_eq_true rfl) (Nat.le_of_ble_eq_true rfl) dL_pass_14
  · intro u H locs h hP hD hS
    obtain ⟨r4, d4⟩ := u
    have hP : va_P D vwCl (wD cI dA bA aA tA d4 ++ [((oA 0), .inl (cJ, 1, .inr (.inl w)))]) H := hP
    have hD : va_D A (wD cI dA bA aA tA d4 ++ [((oA 0), .inl (cJ, 1, .inr (.inl w)))]) := hD
    refine lv_i2l hx hb dL_pass_7 rfl ?_
    refine va_last hx hb hK hP hD hS 22 2 rfl rfl (show ¬ ((0 : Int32) < 0 ∨ 1 ≤ (0 : Int32).toNatClampNeg) from by decide) dL_pass_8 (fun H locs hP hD hS => ?_)
    have hP : va_P D vwCl (wD cI dA bA aA tA d4 ++ [((oA 0), .inl (cJ, 1, .inr (.inl (vp_updL w (0 : Int32).toNatClampNeg r4.toInt64))))]) H := hP
    have hD : va_D A (wD cI dA bA aA tA d4 ++ [((oA 0), .inl (cJ, 1, .inr (.inl (vp_updL w (0 : Int32).toNatClampNeg r4.toInt64))))]) := hD
    refine lv_goto (tgt := 15) hx hb dL_pass_9 (by decide) ?_
    refine lv_iconst (v := 0) hx hb dL_pass_15 (by decide) ?_
    exact zW_iret C (0, d4, (vp_updL w (0 : Int32).toNatClampNeg r4.toInt64)) rfl h hP hD hS (Nat.le_of_ble_eq_true rfl) (Nat.le_of_ble_eq_true rfl) dL_pass_16
def wpL_inState (post : Int32 → DS → (Nat → Int64) → Prop) (d : DS) (w : (Nat → Int64)) (p1 : Int32) : Prop := wpX2_inState (fun r4 => post 0 d (vp_updL w (0 : Int32).toNatClampNeg r4.toInt64)) (fun E9 : String => (E9 = "java/lang/IllegalArgumentException" ∧ post 1 d w)) d p1
set_option maxHeartbeats 4000000 in
set_option maxRecDepth 100000 in
theorem c_L_inState {l : Launch} (hfl : l.stackTraces = false) {s0 : State} (hs0 : zS s0) (D : va_G) (cI cB cJ : ClassId) (dA : Nat → Nat) (bA : Nat → Nat) (aA : Nat → Nat) (tA : Nat → Nat) (oA : Nat → Nat) (d : DS) (w : (Nat → Int64)) (p1 : Int32) {post : Int32 → DS → (Nat → Int64) → Prop} (h : wpL_inState post d w p1) : zWH s0 l D (zty cI cB cJ) yL_inState cL_inState 4 (some .int) [(0, 9, 12, 13)] 8 1 6 [.ref (dA 0), .int p1, .ref (oA 0)] (wD cI dA bA aA tA d ++ [((oA 0), .inl (cJ, 1, .inr (.inl w)))]) (fun u : Int32 × DS × (Nat → Int64) => some (Value.int u.1)) (fun u : Int32 × DS × (Nat → Int64) => post u.1 u.2.1 u.2.2) (fun u : Int32 × DS × (Nat → Int64) => wD cI dA bA aA tA u.2.1 ++ [((oA 0), .inl (cJ, 1, .inr (.inl u.2.2)))]) := by
  refine zWH_intro (by decide +kernel) (Nat.le_of_ble_eq_true rfl) ?_
  intro p e s m below meth c A C htab hA hG hP hD hS ls hl
  have C : zC D (zty cI cB cJ) p s m ([.ref (dA 0), .int p1, .ref (oA 0)] : List Value).toArray meth c cL_inState RL (some .int) 4 := C
  have hx := C.1
  have hb := C.2.1
  have hts := C.2.2.1
  have hown := C.2.2.2.1
  have hml := C.2.2.2.2.2.1
  have hK := C.2.2.2.2.2.2.2
  have hl : lv_has ls 4 [(0, .ref (dA 0)), (1, .int p1), (2, .ref (oA 0))] := hl
  have hP : va_P D vwCl (wD cI dA bA aA tA d ++ [((oA 0), .inl (cJ, 1, .inr (.inl w)))]) s.heap := hP
  have hD : va_D A (wD cI dA bA aA tA d ++ [((oA 0), .inl (cJ, 1, .inr (.inl w)))]) := hD
  unfold wpL_inState at h
  refine lv_aload_n hx hb dL_inState_0 rfl (lv_at hl 2 rfl) ?_
  refine lv_iconst (v := 0) hx hb dL_inState_1 (by decide) ?_
  refine lv_aload_n hx hb dL_inState_2 rfl (lv_at hl 0 rfl) ?_
  refine lv_iload_n hx hb dL_inState_3 rfl (lv_at hl 1 rfl) ?_
  refine z_XV (As := [.int p1]) (rest := [.int 0, .ref (oA 0)]) (wr := (List.filterMap (fun i => (wD cI dA bA aA tA d ++ [((oA 0), .inl (cJ, 1, .inr (.inl w)))])[i]?) [22])) (wN := (fun _ : Int32 => wD cI dA bA aA tA d ++ [((oA 0), .inl (cJ, 1, .inr (.inl w)))])) [0, 1, 2, 3, 4, 5, 6, 7, 8, 9, 10, 11, 12, 13, 14, 15, 16, 17, 18, 19, 20, 21] [22] [1, 2, 3, 4, 5, 6, 7, 8, 9, 10, 11, 12, 13, 14, 15, 16, 17, 18, 19, 20, 21, 22, 0] [1, 2, 3, 4, 5, 6, 7, 8, 9, 10, 11, 12, 13, 14, 15, 16, 17, 18, 19, 20, 21, 22, 0] C hG hA hP hD hS (x_X2_inState hfl hs0 D cI cB cJ dA bA aA tA d p1 h) q585 v_X2_inState rfl rfl ⟨by decide, by decide, by decide⟩ (by decide) (fun _ => rfl) rfl rfl rfl rfl ⟨(Nat.le_of_ble_eq_true rfl), (Nat.le_of_ble_eq_true rfl)⟩ ⟨(Nat.le_of_ble_eq_true rfl), (Nat.le_of_ble_eq_true rfl)⟩ hl.1 rfl (lv_room (Nat.le_of_ble_eq_true rfl)) dL_inState_4 ?_ ?_
  · intro E ce q9 H locs hE hP hS hce hcv hcl
    have hP : va_P D vwCl (wD cI dA bA aA tA d ++ [((oA 0), .inl (cJ, 1, .inr (.inl w)))]) H := hP
    rcases hE with ⟨rfl, h⟩
    refine vx_catch hown [] ⟨0, 9, 12, 13⟩ [] (htab.trans rfl) (fun z hz => absurd hz List.not_mem_nil) rfl (by decide) (hts _ q558) (z_cast hs0 hG.1 zc_a) hce hcv hcl ?_
    show W p l e _ s m _ below meth c _ _ _ _ _ (F0 m 12 ls [.ref q9])
    refine lv_astore_n (lv' := [(3, .ref q9), (0, .ref (dA 0)), (1, .int p1), (2, .ref (oA 0))]) hx hb dL_inState_12 rfl hl (by decide) rfl (fun ls hl => ?_)
    refine lv_iconst (v := 1) hx hb dL_inState_13 (by decide) ?_
    exact zW_iret C (1, d, w) rfl h hP hD hS (Nat.le_of_ble_eq_true rfl) (Nat.le_of_ble_eq_true rfl) dL_inState_14
  · intro u H locs h hP hD hS
    obtain ⟨r4, rfl⟩ : ∃ z, z = u := ⟨_, rfl⟩
    have hP : va_P D vwCl (wD cI dA bA aA tA d ++ [((oA 0), .inl (cJ, 1, .inr (.inl w)))]) H := hP
    have hD : va_D A (wD cI dA bA aA tA d ++ [((oA 0), .inl (cJ, 1, .inr (.inl w)))]) := hD
    refine lv_i2l hx hb dL_inState_7 rfl ?_
    refine va_last hx hb hK hP hD hS 22 2 rfl rfl (show ¬ ((0 : Int32) < 0 ∨ 1 ≤ (0 : Int32).toNatClampNeg) from by decide) dL_inState_8 (fun H locs hP hD hS => ?_)
    have hP : va_P D vwCl (wD cI dA bA aA tA d ++ [((oA 0), .inl (cJ, 1, .inr (.inl (vp_updL w (0 : Int32).toNatClampNeg r4.toInt64))))]) H := hP
    have hD : va_D A (wD cI dA bA aA tA d ++ [((oA 0), .inl (cJ, 1, .inr (.inl (vp_updL w (0 : Int32).toNatClampNeg r4.toInt64))))]) := hD
    refine lv_goto (tgt := 15) hx hb dL_inState_9 (by decide) ?_
    refine lv_iconst (v := 0) hx hb dL_inState_15 (by decide) ?_
    exact zW_iret C (0, d, (vp_updL w (0 : Int32).toNatClampNeg r4.toInt64)) rfl h hP hD hS (Nat.le_of_ble_eq_true rfl) (Nat.le_of_ble_eq_true rfl) dL_inState_16
def wpL_purseOf (post : Int32 → DS → (Nat → Int64) → Prop) (d : DS) (w : (Nat → Int64)) (p1 : Int32) : Prop := wpX2_purseOf (fun r4 => post 0 d (vp_updL w (0 : Int32).toNatClampNeg r4.toInt64)) (fun E9 : String => (E9 = "java/lang/IndexOutOfBoundsException" ∧ post 1 d w)) d p1
set_option maxHeartbeats 4000000 in
set_option maxRecDepth 100000 in
theorem c_L_purseOf {l : Launch} (hfl : l.stackTraces = false) {s0 : State} (hs0 : zS s0) (D : va_G) (cI cB cJ : ClassId) (dA : Nat → Nat) (bA : Nat → Nat) (aA : Nat → Nat) (tA : Nat → Nat) (oA : Nat → Nat) (d : DS) (w : (Nat → Int64)) (p1 : Int32) {post : Int32 → DS → (Nat → Int64) → Prop} (h : wpL_purseOf post d w p1) : zWH s0 l D (zty cI cB cJ) yL_purseOf cL_purseOf 4 (some .int) [(0, 9, 12, 21)] 8 1 6 [.ref (dA 0), .int p1, .ref (oA 0)] (wD cI dA bA aA tA d ++ [((oA 0), .inl (cJ, 1, .inr (.inl w)))]) (fun u : Int32 × DS × (Nat → Int64) => some (Value.int u.1)) (fun u : Int32 × DS × (Nat → Int64) => post u.1 u.2.1 u.2.2) (fun u : Int32 × DS × (Nat → Int64) => wD cI dA bA aA tA u.2.1 ++ [((oA 0), .inl (cJ, 1, .inr (.inl u.2.2)))]) := by
  refine zWH_intro (by decide +kernel) (Nat.le_of_ble_eq_true rfl) ?_
  intro p e s m below meth c A C htab hA hG hP hD hS ls hl
  have C : zC D (zty cI cB cJ) p s m ([.ref (dA 0), .int p1, .ref (oA 0)] : List Value).toArray meth c cL_purseOf RL (some .int) 4 := C
  have hx := C.1
  have hb := C.2.1
  have hts := C.2.2.1
  have hown := C.2.2.2.1
  have hml := C.2.2.2.2.2.1
  have hK := C.2.2.2.2.2.2.2
  have hl : lv_has ls 4 [(0, .ref (dA 0)), (1, .int p1), (2, .ref (oA 0))] := hl
  have hP : va_P D vwCl (wD cI dA bA aA tA d ++ [((oA 0), .inl (cJ, 1, .inr (.inl w)))]) s.heap := hP
  have hD : va_D A (wD cI dA bA aA tA d ++ [((oA 0), .inl (cJ, 1, .inr (.inl w)))]) := hD
  unfold wpL_purseOf at h
  refine lv_aload_n hx hb dL_purseOf_0 rfl (lv_at hl 2 rfl) ?_
  refine lv_iconst (v := 0) hx hb dL_purseOf_1 (by decide) ?_
  refine lv_aload_n hx hb dL_purseOf_2 rfl (lv_at hl 0 rfl) ?_
  refine lv_iload_n hx hb dL_purseOf_3 rfl (lv_at hl 1 rfl) ?_
  refine z_XV (As := [.int p1]) (rest := [.int 0, .ref (oA 0)]) (wr := (List.filterMap (fun i => (wD cI dA bA aA tA d ++ [((oA 0), .inl (cJ, 1, .inr (.inl w)))])[i]?) [22])) (wN := (fun _ : Int32 => wD cI dA bA aA tA d ++ [((oA 0), .inl (cJ, 1, .inr (.inl w)))])) [0, 1, 2, 3, 4, 5, 6, 7, 8, 9, 10, 11, 12, 13, 14, 15, 16, 17, 18, 19, 20, 21] [22] [1, 2, 3, 4, 5, 6, 7, 8, 9, 10, 11, 12, 13, 14, 15, 16, 17, 18, 19, 20, 21, 22, 0] [1, 2, 3, 4, 5, 6, 7, 8, 9, 10, 11, 12, 13, 14, 15, 16, 17, 18, 19, 20, 21, 22, 0] C hG hA hP hD hS (x_X2_purseOf hfl hs0 D cI cB cJ dA bA aA tA d p1 h) q586 v_X2_purseOf rfl rfl ⟨by decide, by decide, by decide⟩ (by decide) (fun _ => rfl) rfl rfl rfl rfl ⟨(Nat.le_of_ble_eq_true rfl), (Nat.le_of_ble_eq_true rfl)⟩ ⟨(Nat.le_of_ble_eq_true rfl), (Nat.le_of_ble_eq_true rfl)⟩ hl.1 rfl (lv_room (Nat.le_of_ble_eq_true rfl)) dL_purseOf_4 ?_ ?_
  · intro E ce q9 H locs hE hP hS hce hcv hcl
    have hP : va_P D vwCl (wD cI dA bA aA tA d ++ [((oA 0), .inl (cJ, 1, .inr (.inl w)))]) H := hP
    rcases hE with ⟨rfl, h⟩
    refine vx_catch hown [] ⟨0, 9, 12, 21⟩ [] (htab.trans rfl) (fun z hz => absurd hz List.not_mem_nil) rfl (by decide) (hts _ q564) (z_cast hs0 hG.1 zc_i) hce hcv hcl ?_
    show W p l e _ s m _ below meth c _ _ _ _ _ (F0 m 12 ls [.ref q9])
    refine lv_astore_n (lv' := [(3, .ref q9), (0, .ref (dA 0)), (1, .int p1), (2, .ref (oA 0))]) hx hb dL_purseOf_12 rfl hl (by decide) rfl (fun ls hl => ?_)
    refine lv_iconst (v := 1) hx hb dL_purseOf_13 (by decide) ?_
    exact zW_iret C (1, d, w) rfl h hP hD hS (Nat.le_of_ble_eq_true rfl) (Nat.le_of_ble_eq_true rfl) dL_purseOf_14
  · intro u H locs h hP hD hS
    obtain ⟨r4, rfl⟩ : ∃ z, z = u := ⟨_, rfl⟩
    have hP : va_P D vwCl (wD cI dA bA aA tA d ++ [((oA 0), .inl (cJ, 1, .inr (.inl w)))]) H := hP
    have hD : va_D A (wD cI dA bA aA tA d ++ [((oA 0), .inl (cJ, 1, .inr (.inl w)))]) := hD
    refine lv_i2l hx hb dL_purseOf_7 rfl ?_
    refine va_last hx hb hK hP hD hS 22 2 rfl rfl (show ¬ ((0 : Int32) < 0 ∨ 1 ≤ (0 : Int32).toNatClampNeg) from by decide) dL_purseOf_8 (fun H locs hP hD hS => ?_)
    have hP : va_P D vwCl (wD cI dA bA aA tA d ++ [((oA 0), .inl (cJ, 1, .inr (.inl (vp_updL w (0 : Int32).toNatClampNeg r4.toInt64))))]) H := hP
    have hD : va_D A (wD cI dA bA aA tA d ++ [((oA 0), .inl (cJ, 1, .inr (.inl (vp_updL w (0 : Int32).toNatClampNeg r4.toInt64))))]) := hD
    refine lv_goto (tgt := 15) hx hb dL_purseOf_9 (by decide) ?_
    refine lv_iconst (v := 0) hx hb dL_purseOf_15 (by decide) ?_
    exact zW_iret C (0, d, (vp_updL w (0 : Int32).toNatClampNeg r4.toInt64)) rfl h hP hD hS (Nat.le_of_ble_eq_true rfl) (Nat.le_of_ble_eq_true rfl) dL_purseOf_16
def wpL_stateOf (post : Int32 → DS → (Nat → Int64) → Prop) (d : DS) (w : (Nat → Int64)) (p1 : Int32) : Prop := wpX2_stateOf (fun r4 => post 0 d (vp_updL w (0 : Int32).toNatClampNeg r4.toInt64)) (fun E9 : String => (E9 = "java/lang/IndexOutOfBoundsException" ∧ post 1 d w)) d p1
set_option maxHeartbeats 4000000 in
set_option maxRecDepth 100000 in
theorem c_L_stateOf {l : Launch} (hfl : l.stackTraces = false) {s0 : State} (hs0 : zS s0) (D : va_G) (cI cB cJ : ClassId) (dA : Nat → Nat) (bA : Nat → Nat) (aA : Nat → Nat) (tA : Nat → Nat) (oA : Nat → Nat) (d : DS) (w : (Nat → Int64)) (p1 : Int32) {post : Int32 → DS → (Nat → Int64) → Prop} (h : wpL_stateOf post d w p1) : zWH s0 l D (zty cI cB cJ) yL_stateOf cL_stateOf 4 (some .int) [(0, 9, 12, 21)] 8 1 6 [.ref (dA 0), .int p1, .ref (oA 0)] (wD cI dA bA aA tA d ++ [((oA 0), .inl (cJ, 1, .inr (.inl w)))]) (fun u : Int32 × DS × (Nat → Int64) => some (Value.int u.1)) (fun u : Int32 × DS × (Nat → Int64) => post u.1 u.2.1 u.2.2) (fun u : Int32 × DS × (Nat → Int64) => wD cI dA bA aA tA u.2.1 ++ [((oA 0), .inl (cJ, 1, .inr (.inl u.2.2)))]) := by
  refine zWH_intro (by decide +kernel) (Nat.le_of_ble_eq_true rfl) ?_
  intro p e s m below meth c A C htab hA hG hP hD hS ls hl
  have C : zC D (zty cI cB cJ) p s m ([.ref (dA 0), .int p1, .ref (oA 0)] : List Value).toArray meth c cL_stateOf RL (some .int) 4 := C
  have hx := C.1
  have hb := C.2.1
  have hts := C.2.2.1
  have hown := C.2.2.2.1
  have hml := C.2.2.2.2.2.1
  have hK := C.2.2.2.2.2.2.2
  have hl : lv_has ls 4 [(0, .ref (dA 0)), (1, .int p1), (2, .ref (oA 0))] := hl
  have hP : va_P D vwCl (wD cI dA bA aA tA d ++ [((oA 0), .inl (cJ, 1, .inr (.inl w)))]) s.heap := hP
  have hD : va_D A (wD cI dA bA aA tA d ++ [((oA 0), .inl (cJ, 1, .inr (.inl w)))]) := hD
  unfold wpL_stateOf at h
  refine lv_aload_n hx hb dL_stateOf_0 rfl (lv_at hl 2 rfl) ?_
  refine lv_iconst (v := 0) hx hb dL_stateOf_1 (by decide) ?_
  refine lv_aload_n hx hb dL_stateOf_2 rfl (lv_at hl 0 rfl) ?_
  refine lv_iload_n hx hb dL_stateOf_3 rfl (lv_at hl 1 rfl) ?_
  refine z_XV (As := [.int p1]) (rest := [.int 0, .ref (oA 0)]) (wr := (List.filterMap (fun i => (wD cI dA bA aA tA d ++ [((oA 0), .inl (cJ, 1, .inr (.inl w)))])[i]?) [22])) (wN := (fun _ : Int32 => wD cI dA bA aA tA d ++ [((oA 0), .inl (cJ, 1, .inr (.inl w)))])) [0, 1, 2, 3, 4, 5, 6, 7, 8, 9, 10, 11, 12, 13, 14, 15, 16, 17, 18, 19, 20, 21] [22] [1, 2, 3, 4, 5, 6, 7, 8, 9, 10, 11, 12, 13, 14, 15, 16, 17, 18, 19, 20, 21, 22, 0] [1, 2, 3, 4, 5, 6, 7, 8, 9, 10, 11, 12, 13, 14, 15, 16, 17, 18, 19, 20, 21, 22, 0] C hG hA hP hD hS (x_X2_stateOf hfl hs0 D cI cB cJ dA bA aA tA d p1 h) q587 v_X2_stateOf rfl rfl ⟨by decide, by decide, by decide⟩ (by decide) (fun _ => rfl) rfl rfl rfl rfl ⟨(Nat.le_of_ble_eq_true rfl), (Nat.le_of_ble_eq_true rfl)⟩ ⟨(Nat.le_of_ble_eq_true rfl), (Nat.le_of_ble_eq_true rfl)⟩ hl.1 rfl (lv_room (Nat.le_of_ble_eq_true rfl)) dL_stateOf_4 ?_ ?_
  · intro E ce q9 H locs hE hP hS hce hcv hcl
    have hP : va_P D vwCl (wD cI dA bA aA tA d ++ [((oA 0), .inl (cJ, 1, .inr (.inl w)))]) H := hP
    rcases hE with ⟨rfl, h⟩
    refine vx_catch hown [] ⟨0, 9, 12, 21⟩ [] (htab.trans rfl) (fun z hz => absurd hz List.not_mem_nil) rfl (by decide) (hts _ q564) (z_cast hs0 hG.1 zc_i) hce hcv hcl ?_
    show W p l e _ s m _ below meth c _ _ _ _ _ (F0 m 12 ls [.ref q9])
    refine lv_astore_n (lv' := [(3, .ref q9), (0, .ref (dA 0)), (1, .int p1), (2, .ref (oA 0))]) hx hb dL_stateOf_12 rfl hl (by decide) rfl (fun ls hl => ?_)
    refine lv_iconst (v := 1) hx hb dL_stateOf_13 (by decide) ?_
    exact zW_iret C (1, d, w) rfl h hP hD hS (Nat.le_of_ble_eq_true rfl) (Nat.le_of_ble_eq_true rfl) dL_stateOf_14
  · intro u H locs h hP hD hS
    obtain ⟨r4, rfl⟩ : ∃ z, z = u := ⟨_, rfl⟩
    have hP : va_P D vwCl (wD cI dA bA aA tA d ++ [((oA 0), .inl (cJ, 1, .inr (.inl w)))]) H := hP
    have hD : va_D A (wD cI dA bA aA tA d ++ [((oA 0), .inl (cJ, 1, .inr (.inl w)))]) := hD
    refine lv_i2l hx hb dL_stateOf_7 rfl ?_
    refine va_last hx hb hK hP hD hS 22 2 rfl rfl (show ¬ ((0 : Int32) < 0 ∨ 1 ≤ (0 : Int32).toNatClampNeg) from by decide) dL_stateOf_8 (fun H locs hP hD hS => ?_)
    have hP : va_P D vwCl (wD cI dA bA aA tA d ++ [((oA 0), .inl (cJ, 1, .inr (.inl (vp_updL w (0 : Int32).toNatClampNeg r4.toInt64))))]) H := hP
    have hD : va_D A (wD cI dA bA aA tA d ++ [((oA 0), .inl (cJ, 1, .inr (.inl (vp_updL w (0 : Int32).toNatClampNeg r4.toInt64))))]) := hD
    refine lv_goto (tgt := 15) hx hb dL_stateOf_9 (by decide) ?_
    refine lv_iconst (v := 0) hx hb dL_stateOf_15 (by decide) ?_
    exact zW_iret C (0, d, (vp_updL w (0 : Int32).toNatClampNeg r4.toInt64)) rfl h hP hD hS (Nat.le_of_ble_eq_true rfl) (Nat.le_of_ble_eq_true rfl) dL_stateOf_16
def wpL_daysLeft (post : Int32 → DS → (Nat → Int64) → Prop) (d : DS) (w : (Nat → Int64)) (p1 : Int32) : Prop := wpX2_daysLeft (fun r4 => post 0 d (vp_updL w (0 : Int32).toNatClampNeg r4.toInt64)) (fun E9 : String => (E9 = "java/lang/IndexOutOfBoundsException" ∧ post 1 d w)) d p1
set_option maxHeartbeats 4000000 in
set_option maxRecDepth 100000 in
theorem c_L_daysLeft {l : Launch} (hfl : l.stackTraces = false) {s0 : State} (hs0 : zS s0) (D : va_G) (cI cB cJ : ClassId) (dA : Nat → Nat) (bA : Nat → Nat) (aA : Nat → Nat) (tA : Nat → Nat) (oA : Nat → Nat) (d : DS) (w : (Nat → Int64)) (p1 : Int32) {post : Int32 → DS → (Nat → Int64) → Prop} (h : wpL_daysLeft post d w p1) : zWH s0 l D (zty cI cB cJ) yL_daysLeft cL_daysLeft 4 (some .int) [(0, 9, 12, 21)] 8 1 6 [.ref (dA 0), .int p1, .ref (oA 0)] (wD cI dA bA aA tA d ++ [((oA 0), .inl (cJ, 1, .inr (.inl w)))]) (fun u : Int32 × DS × (Nat → Int64) => some (Value.int u.1)) (fun u : Int32 × DS × (Nat → Int64) => post u.1 u.2.1 u.2.2) (fun u : Int32 × DS × (Nat → Int64) => wD cI dA bA aA tA u.2.1 ++ [((oA 0), .inl (cJ, 1, .inr (.inl u.2.2)))]) := by
  refine zWH_intro (by decide +kernel) (Nat.le_of_ble_eq_true rfl) ?_
  intro p e s m below meth c A C htab hA hG hP hD hS ls hl
  have C : zC D (zty cI cB cJ) p s m ([.ref (dA 0), .int p1, .ref (oA 0)] : List Value).toArray meth c cL_daysLeft RL (some .int) 4 := C
  have hx := C.1
  have hb := C.2.1
  have hts := C.2.2.1
  have hown := C.2.2.2.1
  have hml := C.2.2.2.2.2.1
  have hK := C.2.2.2.2.2.2.2
  have hl : lv_has ls 4 [(0, .ref (dA 0)), (1, .int p1), (2, .ref (oA 0))] := hl
  have hP : va_P D vwCl (wD cI dA bA aA tA d ++ [((oA 0), .inl (cJ, 1, .inr (.inl w)))]) s.heap := hP
  have hD : va_D A (wD cI dA bA aA tA d ++ [((oA 0), .inl (cJ, 1, .inr (.inl w)))]) := hD
  unfold wpL_daysLeft at h
  refine lv_aload_n hx hb dL_daysLeft_0 rfl (lv_at hl 2 rfl) ?_
  refine lv_iconst (v := 0) hx hb dL_daysLeft_1 (by decide) ?_
  refine lv_aload_n hx hb dL_daysLeft_2 rfl (lv_at hl 0 rfl) ?_
  refine lv_iload_n hx hb dL_daysLeft_3 rfl (lv_at hl 1 rfl) ?_
  refine z_XV (As := [.int p1]) (rest := [.int 0, .ref (oA 0)]) (wr := (List.filterMap (fun i => (wD cI dA bA aA tA d ++ [((oA 0), .inl (cJ, 1, .inr (.inl w)))])[i]?) [22])) (wN := (fun _ : Int32 => wD cI dA bA aA tA d ++ [((oA 0), .inl (cJ, 1, .inr (.inl w)))])) [0, 1, 2, 3, 4, 5, 6, 7, 8, 9, 10, 11, 12, 13, 14, 15, 16, 17, 18, 19, 20, 21] [22] [1, 2, 3, 4, 5, 6, 7, 8, 9, 10, 11, 12, 13, 14, 15, 16, 17, 18, 19, 20, 21, 22, 0] [1, 2, 3, 4, 5, 6, 7, 8, 9, 10, 11, 12, 13, 14, 15, 16, 17, 18, 19, 20, 21, 22, 0] C hG hA hP hD hS (x_X2_daysLeft hfl hs0 D cI cB cJ dA bA aA tA d p1 h) q588 v_X2_daysLeft rfl rfl ⟨by decide, by decide, by decide⟩ (by decide) (fun _ => rfl) rfl rfl rfl rfl ⟨(Nat.le_of_ble_eq_true rfl), (Nat.le_of_ble_eq_true rfl)⟩ ⟨(Nat.le_of_ble_eq_true rfl), (Nat.le_of_ble_eq_true rfl)⟩ hl.1 rfl (lv_room (Nat.le_of_ble_eq_true rfl)) dL_daysLeft_4 ?_ ?_
  · intro E ce q9 H locs hE hP hS hce hcv hcl
    have hP : va_P D vwCl (wD cI dA bA aA tA d ++ [((oA 0), .inl (cJ, 1, .inr (.inl w)))]) H := hP
    rcases hE with ⟨rfl, h⟩
    refine vx_catch hown [] ⟨0, 9, 12, 21⟩ [] (htab.trans rfl) (fun z hz => absurd hz List.not_mem_nil) rfl (by decide) (hts _ q564) (z_cast hs0 hG.1 zc_i) hce hcv hcl ?_
    show W p l e _ s m _ below meth c _ _ _ _ _ (F0 m 12 ls [.ref q9])
    refine lv_astore_n (lv' := [(3, .ref q9), (0, .ref (dA 0)), (1, .int p1), (2, .ref (oA 0))]) hx hb dL_daysLeft_12 rfl hl (by decide) rfl (fun ls hl => ?_)
    refine lv_iconst (v := 1) hx hb dL_daysLeft_13 (by decide) ?_
    exact zW_iret C (1, d, w) rfl h hP hD hS (Nat.le_of_ble_eq_true rfl) (Nat.le_of_ble_eq_true rfl) dL_daysLeft_14
  · intro u H locs h hP hD hS
    obtain ⟨r4, rfl⟩ : ∃ z, z = u := ⟨_, rfl⟩
    have hP : va_P D vwCl (wD cI dA bA aA tA d ++ [((oA 0), .inl (cJ, 1, .inr (.inl w)))]) H := hP
    have hD : va_D A (wD cI dA bA aA tA d ++ [((oA 0), .inl (cJ, 1, .inr (.inl w)))]) := hD
    refine lv_i2l hx hb dL_daysLeft_7 rfl ?_
    refine va_last hx hb hK hP hD hS 22 2 rfl rfl (show ¬ ((0 : Int32) < 0 ∨ 1 ≤ (0 : Int32).toNatClampNeg) from by decide) dL_daysLeft_8 (fun H locs hP hD hS => ?_)
    have hP : va_P D vwCl (wD cI dA bA aA tA d ++ [((oA 0), .inl (cJ, 1, .inr (.inl (vp_updL w (0 : Int32).toNatClampNeg r4.toInt64))))]) H := hP
    have hD : va_D A (wD cI dA bA aA tA d ++ [((oA 0), .inl (cJ, 1, .inr (.inl (vp_updL w (0 : Int32).toNatClampNeg r4.toInt64))))]) := hD
    refine lv_goto (tgt := 15) hx hb dL_daysLeft_9 (by decide) ?_
    refine lv_iconst (v := 0) hx hb dL_daysLeft_15 (by decide) ?_
    exact zW_iret C (0, d, (vp_updL w (0 : Int32).toNatClampNeg r4.toInt64)) rfl h hP hD hS (Nat.le_of_ble_eq_true rfl) (Nat.le_of_ble_eq_true rfl) dL_daysLeft_16
def wpL_stoppedFor (post : Int32 → DS → (Nat → Int64) → Prop) (d : DS) (w : (Nat → Int64)) (p1 : Int32) : Prop := wpX2_stoppedFor (fun r4 => post 0 d (vp_updL w (0 : Int32).toNatClampNeg r4.toInt64)) (fun E9 : String => (E9 = "java/lang/IndexOutOfBoundsException" ∧ post 1 d w)) d p1
set_option maxHeartbeats 4000000 in
set_option maxRecDepth 100000 in
theorem c_L_stoppedFor {l : Launch} (hfl : l.stackTraces = false) {s0 : State} (hs0 : zS s0) (D : va_G) (cI cB cJ : ClassId) (dA : Nat → Nat) (bA : Nat → Nat) (aA : Nat → Nat) (tA : Nat → Nat) (oA : Nat → Nat) (d : DS) (w : (Nat → Int64)) (p1 : Int32) {post : Int32 → DS → (Nat → Int64) → Prop} (h : wpL_stoppedFor post d w p1) : zWH s0 l D (zty cI cB cJ) yL_stoppedFor cL_stoppedFor 4 (some .int) [(0, 9, 12, 21)] 8 1 6 [.ref (dA 0), .int p1, .ref (oA 0)] (wD cI dA bA aA tA d ++ [((oA 0), .inl (cJ, 1, .inr (.inl w)))]) (fun u : Int32 × DS × (Nat → Int64) => some (Value.int u.1)) (fun u : Int32 × DS × (Nat → Int64) => post u.1 u.2.1 u.2.2) (fun u : Int32 × DS × (Nat → Int64) => wD cI dA bA aA tA u.2.1 ++ [((oA 0), .inl (cJ, 1, .inr (.inl u.2.2)))]) := by
  refine zWH_intro (by decide +kernel) (Nat.le_of_ble_eq_true rfl) ?_
  intro p e s m below meth c A C htab hA hG hP hD hS ls hl
  have C : zC D (zty cI cB cJ) p s m ([.ref (dA 0), .int p1, .ref (oA 0)] : List Value).toArray meth c cL_stoppedFor RL (some .int) 4 := C
  have hx := C.1
  have hb := C.2.1
  have hts := C.2.2.1
  have hown := C.2.2.2.1
  have hml := C.2.2.2.2.2.1
  have hK := C.2.2.2.2.2.2.2
  have hl : lv_has ls 4 [(0, .ref (dA 0)), (1, .int p1), (2, .ref (oA 0))] := hl
  have hP : va_P D vwCl (wD cI dA bA aA tA d ++ [((oA 0), .inl (cJ, 1, .inr (.inl w)))]) s.heap := hP
  have hD : va_D A (wD cI dA bA aA tA d ++ [((oA 0), .inl (cJ, 1, .inr (.inl w)))]) := hD
  unfold wpL_stoppedFor at h
  refine lv_aload_n hx hb dL_stoppedFor_0 rfl (lv_at hl 2 rfl) ?_
  refine lv_iconst (v := 0) hx hb dL_stoppedFor_1 (by decide) ?_
  refine lv_aload_n hx hb dL_stoppedFor_2 rfl (lv_at hl 0 rfl) ?_
  refine lv_iload_n hx hb dL_stoppedFor_3 rfl (lv_at hl 1 rfl) ?_
  refine z_XV (As := [.int p1]) (rest := [.int 0, .ref (oA 0)]) (wr := (List.filterMap (fun i => (wD cI dA bA aA tA d ++ [((oA 0), .inl (cJ, 1, .inr (.inl w)))])[i]?) [22])) (wN := (fun _ : Int32 => wD cI dA bA aA tA d ++ [((oA 0), .inl (cJ, 1, .inr (.inl w)))])) [0, 1, 2, 3, 4, 5, 6, 7, 8, 9, 10, 11, 12, 13, 14, 15, 16, 17, 18, 19, 20, 21] [22] [1, 2, 3, 4, 5, 6, 7, 8, 9, 10, 11, 12, 13, 14, 15, 16, 17, 18, 19, 20, 21, 22, 0] [1, 2, 3, 4, 5, 6, 7, 8, 9, 10, 11, 12, 13, 14, 15, 16, 17, 18, 19, 20, 21, 22, 0] C hG hA hP hD hS (x_X2_stoppedFor hfl hs0 D cI cB cJ dA bA aA tA d p1 h) q589 v_X2_stoppedFor rfl rfl ⟨by decide, by decide, by decide⟩ (by decide) (fun _ => rfl) rfl rfl rfl rfl ⟨(Nat.le_of_ble_eq_true rfl), (Nat.le_of_ble_eq_true rfl)⟩ ⟨(Nat.le_of_ble_eq_true rfl), (Nat.le_of_ble_eq_true rfl)⟩ hl.1 rfl (lv_room (Nat.le_of_ble_eq_true rfl)) dL_stoppedFor_4 ?_ ?_
  · intro E ce q9 H locs hE hP hS hce hcv hcl
    have hP : va_P D vwCl (wD cI dA bA aA tA d ++ [((oA 0), .inl (cJ, 1, .inr (.inl w)))]) H := hP
    rcases hE with ⟨rfl, h⟩
    refine vx_catch hown [] ⟨0, 9, 12, 21⟩ [] (htab.trans rfl) (fun z hz => absurd hz List.not_mem_nil) rfl (by decide) (hts _ q564) (z_cast hs0 hG.1 zc_i) hce hcv hcl ?_
    show W p l e _ s m _ below meth c _ _ _ _ _ (F0 m 12 ls [.ref q9])
    refine lv_astore_n (lv' := [(3, .ref q9), (0, .ref (dA 0)), (1, .int p1), (2, .ref (oA 0))]) hx hb dL_stoppedFor_12 rfl hl (by decide) rfl (fun ls hl => ?_)
    refine lv_iconst (v := 1) hx hb dL_stoppedFor_13 (by decide) ?_
    exact zW_iret C (1, d, w) rfl h hP hD hS (Nat.le_of_ble_eq_true rfl) (Nat.le_of_ble_eq_true rfl) dL_stoppedFor_14
  · intro u H locs h hP hD hS
    obtain ⟨r4, rfl⟩ : ∃ z, z = u := ⟨_, rfl⟩
    have hP : va_P D vwCl (wD cI dA bA aA tA d ++ [((oA 0), .inl (cJ, 1, .inr (.inl w)))]) H := hP
    have hD : va_D A (wD cI dA bA aA tA d ++ [((oA 0), .inl (cJ, 1, .inr (.inl w)))]) := hD
    refine lv_i2l hx hb dL_stoppedFor_7 rfl ?_
    refine va_last hx hb hK hP hD hS 22 2 rfl rfl (show ¬ ((0 : Int32) < 0 ∨ 1 ≤ (0 : Int32).toNatClampNeg) from by decide) dL_stoppedFor_8 (fun H locs hP hD hS => ?_)
    have hP : va_P D vwCl (wD cI dA bA aA tA d ++ [((oA 0), .inl (cJ, 1, .inr (.inl (vp_updL w (0 : Int32).toNatClampNeg r4.toInt64))))]) H := hP
    have hD : va_D A (wD cI dA bA aA tA d ++ [((oA 0), .inl (cJ, 1, .inr (.inl (vp_updL w (0 : Int32).toNatClampNeg r4.toInt64))))]) := hD
    refine lv_goto (tgt := 15) hx hb dL_stoppedFor_9 (by decide) ?_
    refine lv_iconst (v := 0) hx hb dL_stoppedFor_15 (by decide) ?_
    exact zW_iret C (0, d, (vp_updL w (0 : Int32).toNatClampNeg r4.toInt64)) rfl h hP hD hS (Nat.le_of_ble_eq_true rfl) (Nat.le_of_ble_eq_true rfl) dL_stoppedFor_16
def wpL_priceOf (post : Int32 → DS → (Nat → Int64) → Prop) (d : DS) (w : (Nat → Int64)) (p1 : Int32) : Prop := wpX2_priceOf (fun r4 => post 0 d (vp_updL w (0 : Int32).toNatClampNeg r4.toInt64)) (fun E9 : String => (E9 = "java/lang/IndexOutOfBoundsException" ∧ post 1 d w)) d p1
set_option maxHeartbeats 4000000 in
set_option maxRecDepth 100000 in
theorem c_L_priceOf {l : Launch} (hfl : l.stackTraces = false) {s0 : State} (hs0 : zS s0) (D : va_G) (cI cB cJ : ClassId) (dA : Nat → Nat) (bA : Nat → Nat) (aA : Nat → Nat) (tA : Nat → Nat) (oA : Nat → Nat) (d : DS) (w : (Nat → Int64)) (p1 : Int32) {post : Int32 → DS → (Nat → Int64) → Prop} (h : wpL_priceOf post d w p1) : zWH s0 l D (zty cI cB cJ) yL_priceOf cL_priceOf 4 (some .int) [(0, 9, 12, 21)] 8 1 6 [.ref (dA 0), .int p1, .ref (oA 0)] (wD cI dA bA aA tA d ++ [((oA 0), .inl (cJ, 1, .inr (.inl w)))]) (fun u : Int32 × DS × (Nat → Int64) => some (Value.int u.1)) (fun u : Int32 × DS × (Nat → Int64) => post u.1 u.2.1 u.2.2) (fun u : Int32 × DS × (Nat → Int64) => wD cI dA bA aA tA u.2.1 ++ [((oA 0), .inl (cJ, 1, .inr (.inl u.2.2)))]) := by
  refine zWH_intro (by decide +kernel) (Nat.le_of_ble_eq_true rfl) ?_
  intro p e s m below meth c A C htab hA hG hP hD hS ls hl
  have C : zC D (zty cI cB cJ) p s m ([.ref (dA 0), .int p1, .ref (oA 0)] : List Value).toArray meth c cL_priceOf RL (some .int) 4 := C
  have hx := C.1
  have hb := C.2.1
  have hts := C.2.2.1
  have hown := C.2.2.2.1
  have hml := C.2.2.2.2.2.1
  have hK := C.2.2.2.2.2.2.2
  have hl : lv_has ls 4 [(0, .ref (dA 0)), (1, .int p1), (2, .ref (oA 0))] := hl
  have hP : va_P D vwCl (wD cI dA bA aA tA d ++ [((oA 0), .inl (cJ, 1, .inr (.inl w)))]) s.heap := hP
  have hD : va_D A (wD cI dA bA aA tA d ++ [((oA 0), .inl (cJ, 1, .inr (.inl w)))]) := hD
  unfold wpL_priceOf at h
  refine lv_aload_n hx hb dL_priceOf_0 rfl (lv_at hl 2 rfl) ?_
  refine lv_iconst (v := 0) hx hb dL_priceOf_1 (by decide) ?_
  refine lv_aload_n hx hb dL_priceOf_2 rfl (lv_at hl 0 rfl) ?_
  refine lv_iload_n hx hb dL_priceOf_3 rfl (lv_at hl 1 rfl) ?_
  refine z_XV (As := [.int p1]) (rest := [.int 0, .ref (oA 0)]) (wr := (List.filterMap (fun i => (wD cI dA bA aA tA d ++ [((oA 0), .inl (cJ, 1, .inr (.inl w)))])[i]?) [22])) (wN := (fun _ : Int32 => wD cI dA bA aA tA d ++ [((oA 0), .inl (cJ, 1, .inr (.inl w)))])) [0, 1, 2, 3, 4, 5, 6, 7, 8, 9, 10, 11, 12, 13, 14, 15, 16, 17, 18, 19, 20, 21] [22] [1, 2, 3, 4, 5, 6, 7, 8, 9, 10, 11, 12, 13, 14, 15, 16, 17, 18, 19, 20, 21, 22, 0] [1, 2, 3, 4, 5, 6, 7, 8, 9, 10, 11, 12, 13, 14, 15, 16, 17, 18, 19, 20, 21, 22, 0] C hG hA hP hD hS (x_X2_priceOf hfl hs0 D cI cB cJ dA bA aA tA d p1 h) q590 v_X2_priceOf rfl rfl ⟨by decide, by decide, by decide⟩ (by decide) (fun _ => rfl) rfl rfl rfl rfl ⟨(Nat.le_of_ble_eq_true rfl), (Nat.le_of_ble_eq_true rfl)⟩ ⟨(Nat.le_of_ble_eq_true rfl), (Nat.le_of_ble_eq_true rfl)⟩ hl.1 rfl (lv_room (Nat.le_of_ble_eq_true rfl)) dL_priceOf_4 ?_ ?_
  · intro E ce q9 H locs hE hP hS hce hcv hcl
    have hP : va_P D vwCl (wD cI dA bA aA tA d ++ [((oA 0), .inl (cJ, 1, .inr (.inl w)))]) H := hP
    rcases hE with ⟨rfl, h⟩
    refine vx_catch hown [] ⟨0, 9, 12, 21⟩ [] (htab.trans rfl) (fun z hz => absurd hz List.not_mem_nil) rfl (by decide) (hts _ q564) (z_cast hs0 hG.1 zc_i) hce hcv hcl ?_
    show W p l e _ s m _ below meth c _ _ _ _ _ (F0 m 12 ls [.ref q9])
    refine lv_astore_n (lv' := [(3, .ref q9), (0, .ref (dA 0)), (1, .int p1), (2, .ref (oA 0))]) hx hb dL_priceOf_12 rfl hl (by decide) rfl (fun ls hl => ?_)
    refine lv_iconst (v := 1) hx hb dL_priceOf_13 (by decide) ?_
    exact zW_iret C (1, d, w) rfl h hP hD hS (Nat.le_of_ble_eq_true rfl) (Nat.le_of_ble_eq_true rfl) dL_priceOf_14
  · intro u H locs h hP hD hS
    obtain ⟨r4, rfl⟩ : ∃ z, z = u := ⟨_, rfl⟩
    have hP : va_P D vwCl (wD cI dA bA aA tA d ++ [((oA 0), .inl (cJ, 1, .inr (.inl w)))]) H := hP
    have hD : va_D A (wD cI dA bA aA tA d ++ [((oA 0), .inl (cJ, 1, .inr (.inl w)))]) := hD
    refine lv_i2l hx hb dL_priceOf_7 rfl ?_
    refine va_last hx hb hK hP hD hS 22 2 rfl rfl (show ¬ ((0 : Int32) < 0 ∨ 1 ≤ (0 : Int32).toNatClampNeg) from by decide) dL_priceOf_8 (fun H locs hP hD hS => ?_)
    have hP : va_P D vwCl (wD cI dA bA aA tA d ++ [((oA 0), .inl (cJ, 1, .inr (.inl (vp_updL w (0 : Int32).toNatClampNeg r4.toInt64))))]) H := hP
    have hD : va_D A (wD cI dA bA aA tA d ++ [((oA 0), .inl (cJ, 1, .inr (.inl (vp_updL w (0 : Int32).toNatClampNeg r4.toInt64))))]) := hD
    refine lv_goto (tgt := 15) hx hb dL_priceOf_9 (by decide) ?_
    refine lv_iconst (v := 0) hx hb dL_priceOf_15 (by decide) ?_
    exact zW_iret C (0, d, (vp_updL w (0 : Int32).toNatClampNeg r4.toInt64)) rfl h hP hD hS (Nat.le_of_ble_eq_true rfl) (Nat.le_of_ble_eq_true rfl) dL_priceOf_16
def wpL_hanging (post : Int32 → DS → (Nat → Int64) → Prop) (d : DS) (w : (Nat → Int64)) (p1 : Int32) : Prop := wpX2_hanging (fun r4 => post 0 d (vp_updL w (0 : Int32).toNatClampNeg r4.toInt64)) (fun E9 : String => (E9 = "java/lang/IndexOutOfBoundsException" ∧ post 1 d w)) d p1
set_option maxHeartbeats 4000000 in
set_option maxRecDepth 100000 in
theorem c_L_hanging {l : Launch} (hfl : l.stackTraces = false) {s0 : State} (hs0 : zS s0) (D : va_G) (cI cB cJ : ClassId) (dA : Nat → Nat) (bA : Nat → Nat) (aA : Nat → Nat) (tA : Nat → Nat) (oA : Nat → Nat) (d : DS) (w : (Nat → Int64)) (p1 : Int32) {post : Int32 → DS → (Nat → Int64) → Prop} (h : wpL_hanging post d w p1) : zWH s0 l D (zty cI cB cJ) yL_hanging cL_hanging 4 (some .int) [(0, 9, 12, 21)] 8 1 6 [.ref (dA 0), .int p1, .ref (oA 0)] (wD cI dA bA aA tA d ++ [((oA 0), .inl (cJ, 1, .inr (.inl w)))]) (fun u : Int32 × DS × (Nat → Int64) => some (Value.int u.1)) (fun u : Int32 × DS × (Nat → Int64) => post u.1 u.2.1 u.2.2) (fun u : Int32 × DS × (Nat → Int64) => wD cI dA bA aA tA u.2.1 ++ [((oA 0), .inl (cJ, 1, .inr (.inl u.2.2)))]) := by
  refine zWH_intro (by decide +kernel) (Nat.le_of_ble_eq_true rfl) ?_
  intro p e s m below meth c A C htab hA hG hP hD hS ls hl
  have C : zC D (zty cI cB cJ) p s m ([.ref (dA 0), .int p1, .ref (oA 0)] : List Value).toArray meth c cL_hanging RL (some .int) 4 := C
  have hx := C.1
  have hb := C.2.1
  have hts := C.2.2.1
  have hown := C.2.2.2.1
  have hml := C.2.2.2.2.2.1
  have hK := C.2.2.2.2.2.2.2
  have hl : lv_has ls 4 [(0, .ref (dA 0)), (1, .int p1), (2, .ref (oA 0))] := hl
  have hP : va_P D vwCl (wD cI dA bA aA tA d ++ [((oA 0), .inl (cJ, 1, .inr (.inl w)))]) s.heap := hP
  have hD : va_D A (wD cI dA bA aA tA d ++ [((oA 0), .inl (cJ, 1, .inr (.inl w)))]) := hD
  unfold wpL_hanging at h
  refine lv_aload_n hx hb dL_hanging_0 rfl (lv_at hl 2 rfl) ?_
  refine lv_iconst (v := 0) hx hb dL_hanging_1 (by decide) ?_
  refine lv_aload_n hx hb dL_hanging_2 rfl (lv_at hl 0 rfl) ?_
  refine lv_iload_n hx hb dL_hanging_3 rfl (lv_at hl 1 rfl) ?_
  refine z_XV (As := [.int p1]) (rest := [.int 0, .ref (oA 0)]) (wr := (List.filterMap (fun i => (wD cI dA bA aA tA d ++ [((oA 0), .inl (cJ, 1, .inr (.inl w)))])[i]?) [22])) (wN := (fun _ : Int32 => wD cI dA bA aA tA d ++ [((oA 0), .inl (cJ, 1, .inr (.inl w)))])) [0, 1, 2, 3, 4, 5, 6, 7, 8, 9, 10, 11, 12, 13, 14, 15, 16, 17, 18, 19, 20, 21] [22] [1, 2, 3, 4, 5, 6, 7, 8, 9, 10, 11, 12, 13, 14, 15, 16, 17, 18, 19, 20, 21, 22, 0] [1, 2, 3, 4, 5, 6, 7, 8, 9, 10, 11, 12, 13, 14, 15, 16, 17, 18, 19, 20, 21, 22, 0] C hG hA hP hD hS (x_X2_hanging hfl hs0 D cI cB cJ dA bA aA tA d p1 h) q591 v_X2_hanging rfl rfl ⟨by decide, by decide, by decide⟩ (by decide) (fun _ => rfl) rfl rfl rfl rfl ⟨(Nat.le_of_ble_eq_true rfl), (Nat.le_of_ble_eq_true rfl)⟩ ⟨(Nat.le_of_ble_eq_true rfl), (Nat.le_of_ble_eq_true rfl)⟩ hl.1 rfl (lv_room (Nat.le_of_ble_eq_true rfl)) dL_hanging_4 ?_ ?_
  · intro E ce q9 H locs hE hP hS hce hcv hcl
    have hP : va_P D vwCl (wD cI dA bA aA tA d ++ [((oA 0), .inl (cJ, 1, .inr (.inl w)))]) H := hP
    rcases hE with ⟨rfl, h⟩
    refine vx_catch hown [] ⟨0, 9, 12, 21⟩ [] (htab.trans rfl) (fun z hz => absurd hz List.not_mem_nil) rfl (by decide) (hts _ q564) (z_cast hs0 hG.1 zc_i) hce hcv hcl ?_
    show W p l e _ s m _ below meth c _ _ _ _ _ (F0 m 12 ls [.ref q9])
    refine lv_astore_n (lv' := [(3, .ref q9), (0, .ref (dA 0)), (1, .int p1), (2, .ref (oA 0))]) hx hb dL_hanging_12 rfl hl (by decide) rfl (fun ls hl => ?_)
    refine lv_iconst (v := 1) hx hb dL_hanging_13 (by decide) ?_
    exact zW_iret C (1, d, w) rfl h hP hD hS (Nat.le_of_ble_eq_true rfl) (Nat.le_of_ble_eq_true rfl) dL_hanging_14
  · intro u H locs h hP hD hS
    obtain ⟨r4, rfl⟩ : ∃ z, z = u := ⟨_, rfl⟩
    have hP : va_P D vwCl (wD cI dA bA aA tA d ++ [((oA 0), .inl (cJ, 1, .inr (.inl w)))]) H := hP
    have hD : va_D A (wD cI dA bA aA tA d ++ [((oA 0), .inl (cJ, 1, .inr (.inl w)))]) := hD
    refine lv_i2l hx hb dL_hanging_7 rfl ?_
    refine va_last hx hb hK hP hD hS 22 2 rfl rfl (show ¬ ((0 : Int32) < 0 ∨ 1 ≤ (0 : Int32).toNatClampNeg) from by decide) dL_hanging_8 (fun H locs hP hD hS => ?_)
    have hP : va_P D vwCl (wD cI dA bA aA tA d ++ [((oA 0), .inl (cJ, 1, .inr (.inl (vp_updL w (0 : Int32).toNatClampNeg r4.toInt64))))]) H := hP
    have hD : va_D A (wD cI dA bA aA tA d ++ [((oA 0), .inl (cJ, 1, .inr (.inl (vp_updL w (0 : Int32).toNatClampNeg r4.toInt64))))]) := hD
    refine lv_goto (tgt := 15) hx hb dL_hanging_9 (by decide) ?_
    refine lv_iconst (v := 0) hx hb dL_hanging_15 (by decide) ?_
    exact zW_iret C (0, d, (vp_updL w (0 : Int32).toNatClampNeg r4.toInt64)) rfl h hP hD hS (Nat.le_of_ble_eq_true rfl) (Nat.le_of_ble_eq_true rfl) dL_hanging_16
def wpL_depthOf (post : Int32 → DS → (Nat → Int64) → Prop) (d : DS) (w : (Nat → Int64)) (p1 : Int32) : Prop := wpX2_depthOf (fun r4 => post 0 d (vp_updL w (0 : Int32).toNatClampNeg r4.toInt64)) (fun E9 : String => (E9 = "java/lang/IndexOutOfBoundsException" ∧ post 1 d w)) d p1
set_option maxHeartbeats 4000000 in
set_option maxRecDepth 100000 in
theorem c_L_depthOf {l : Launch} (hfl : l.stackTraces = false) {s0 : State} (hs0 : zS s0) (D : va_G) (cI cB cJ : ClassId) (dA : Nat → Nat) (bA : Nat → Nat) (aA : Nat → Nat) (tA : Nat → Nat) (oA : Nat → Nat) (d : DS) (w : (Nat → Int64)) (p1 : Int32) {post : Int32 → DS → (Nat → Int64) → Prop} (h : wpL_depthOf post d w p1) : zWH s0 l D (zty cI cB cJ) yL_depthOf cL_depthOf 4 (some .int) [(0, 9, 12, 21)] 8 1 6 [.ref (dA 0), .int p1, .ref (oA 0)] (wD cI dA bA aA tA d ++ [((oA 0), .inl (cJ, 1, .inr (.inl w)))]) (fun u : Int32 × DS × (Nat → Int64) => some (Value.int u.1)) (fun u : Int32 × DS × (Nat → Int64) => post u.1 u.2.1 u.2.2) (fun u : Int32 × DS × (Nat → Int64) => wD cI dA bA aA tA u.2.1 ++ [((oA 0), .inl (cJ, 1, .inr (.inl u.2.2)))]) := by
  refine zWH_intro (by decide +kernel) (Nat.le_of_ble_eq_true rfl) ?_
  intro p e s m below meth c A C htab hA hG hP hD hS ls hl
  have C : zC D (zty cI cB cJ) p s m ([.ref (dA 0), .int p1, .ref (oA 0)] : List Value).toArray meth c cL_depthOf RL (some .int) 4 := C
  have hx := C.1
  have hb := C.2.1
  have hts := C.2.2.1
  have hown := C.2.2.2.1
  have hml := C.2.2.2.2.2.1
  have hK := C.2.2.2.2.2.2.2
  have hl : lv_has ls 4 [(0, .ref (dA 0)), (1, .int p1), (2, .ref (oA 0))] := hl
  have hP : va_P D vwCl (wD cI dA bA aA tA d ++ [((oA 0), .inl (cJ, 1, .inr (.inl w)))]) s.heap := hP
  have hD : va_D A (wD cI dA bA aA tA d ++ [((oA 0), .inl (cJ, 1, .inr (.inl w)))]) := hD
  unfold wpL_depthOf at h
  refine lv_aload_n hx hb dL_depthOf_0 rfl (lv_at hl 2 rfl) ?_
  refine lv_iconst (v := 0) hx hb dL_depthOf_1 (by decide) ?_
  refine lv_aload_n hx hb dL_depthOf_2 rfl (lv_at hl 0 rfl) ?_
  refine lv_iload_n hx hb dL_depthOf_3 rfl (lv_at hl 1 rfl) ?_
  refine z_XV (As := [.int p1]) (rest := [.int 0, .ref (oA 0)]) (wr := (List.filterMap (fun i => (wD cI dA bA aA tA d ++ [((oA 0), .inl (cJ, 1, .inr (.inl w)))])[i]?) [22])) (wN := (fun _ : Int32 => wD cI dA bA aA tA d ++ [((oA 0), .inl (cJ, 1, .inr (.inl w)))])) [0, 1, 2, 3, 4, 5, 6, 7, 8, 9, 10, 11, 12, 13, 14, 15, 16, 17, 18, 19, 20, 21] [22] [1, 2, 3, 4, 5, 6, 7, 8, 9, 10, 11, 12, 13, 14, 15, 16, 17, 18, 19, 20, 21, 22, 0] [1, 2, 3, 4, 5, 6, 7, 8, 9, 10, 11, 12, 13, 14, 15, 16, 17, 18, 19, 20, 21, 22, 0] C hG hA hP hD hS (x_X2_depthOf hfl hs0 D cI cB cJ dA bA aA tA d p1 h) q592 v_X2_depthOf rfl rfl ⟨by decide, by decide, by decide⟩ (by decide) (fun _ => rfl) rfl rfl rfl rfl ⟨(Nat.le_of_ble_eq_true rfl), (Nat.le_of_ble_eq_true rfl)⟩ ⟨(Nat.le_of_ble_eq_true rfl), (Nat.le_of_ble_eq_true rfl)⟩ hl.1 rfl (lv_room (Nat.le_of_ble_eq_true rfl)) dL_depthOf_4 ?_ ?_
  · intro E ce q9 H locs hE hP hS hce hcv hcl
    have hP : va_P D vwCl (wD cI dA bA aA tA d ++ [((oA 0), .inl (cJ, 1, .inr (.inl w)))]) H := hP
    rcases hE with ⟨rfl, h⟩
    refine vx_catch hown [] ⟨0, 9, 12, 21⟩ [] (htab.trans rfl) (fun z hz => absurd hz List.not_mem_nil) rfl (by decide) (hts _ q564) (z_cast hs0 hG.1 zc_i) hce hcv hcl ?_
    show W p l e _ s m _ below meth c _ _ _ _ _ (F0 m 12 ls [.ref q9])
    refine lv_astore_n (lv' := [(3, .ref q9), (0, .ref (dA 0)), (1, .int p1), (2, .ref (oA 0))]) hx hb dL_depthOf_12 rfl hl (by decide) rfl (fun ls hl => ?_)
    refine lv_iconst (v := 1) hx hb dL_depthOf_13 (by decide) ?_
    exact zW_iret C (1, d, w) rfl h hP hD hS (Nat.le_of_ble_eq_true rfl) (Nat.le_of_ble_eq_true rfl) dL_depthOf_14
  · intro u H locs h hP hD hS
    obtain ⟨r4, rfl⟩ : ∃ z, z = u := ⟨_, rfl⟩
    have hP : va_P D vwCl (wD cI dA bA aA tA d ++ [((oA 0), .inl (cJ, 1, .inr (.inl w)))]) H := hP
    have hD : va_D A (wD cI dA bA aA tA d ++ [((oA 0), .inl (cJ, 1, .inr (.inl w)))]) := hD
    refine lv_i2l hx hb dL_depthOf_7 rfl ?_
    refine va_last hx hb hK hP hD hS 22 2 rfl rfl (show ¬ ((0 : Int32) < 0 ∨ 1 ≤ (0 : Int32).toNatClampNeg) from by decide) dL_depthOf_8 (fun H locs hP hD hS => ?_)
    have hP : va_P D vwCl (wD cI dA bA aA tA d ++ [((oA 0), .inl (cJ, 1, .inr (.inl (vp_updL w (0 : Int32).toNatClampNeg r4.toInt64))))]) H := hP
    have hD : va_D A (wD cI dA bA aA tA d ++ [((oA 0), .inl (cJ, 1, .inr (.inl (vp_updL w (0 : Int32).toNatClampNeg r4.toInt64))))]) := hD
    refine lv_goto (tgt := 15) hx hb dL_depthOf_9 (by decide) ?_
    refine lv_iconst (v := 0) hx hb dL_depthOf_15 (by decide) ?_
    exact zW_iret C (0, d, (vp_updL w (0 : Int32).toNatClampNeg r4.toInt64)) rfl h hP hD hS (Nat.le_of_ble_eq_true rfl) (Nat.le_of_ble_eq_true rfl) dL_depthOf_16
def wpL_textLength (post : Int32 → DS → (Nat → Int64) → Prop) (d : DS) (w : (Nat → Int64)) (p1 : Int32) : Prop := wpX2_textLength (fun r4 => post 0 d (vp_updL w (0 : Int32).toNatClampNeg r4.toInt64)) (fun E9 : String => (E9 = "java/lang/IndexOutOfBoundsException" ∧ post 1 d w)) d p1
set_option maxHeartbeats 4000000 in
set_option maxRecDepth 100000 in
theorem c_L_textLength {l : Launch} (hfl : l.stackTraces = false) {s0 : State} (hs0 : zS s0) (D : va_G) (cI cB cJ : ClassId) (dA : Nat → Nat) (bA : Nat → Nat) (aA : Nat → Nat) (tA : Nat → Nat) (oA : Nat → Nat) (d : DS) (w : (Nat → Int64)) (p1 : Int32) {post : Int32 → DS → (Nat → Int64) → Prop} (h : wpL_textLength post d w p1) : zWH s0 l D (zty cI cB cJ) yL_textLength cL_textLength 4 (some .int) [(0, 9, 12, 21)] 8 1 6 [.ref (dA 0), .int p1, .ref (oA 0)] (wD cI dA bA aA tA d ++ [((oA 0), .inl (cJ, 1, .inr (.inl w)))]) (fun u : Int32 × DS × (Nat → Int64) => some (Value.int u.1)) (fun u : Int32 × DS × (Nat → Int64) => post u.1 u.2.1 u.2.2) (fun u : Int32 × DS × (Nat → Int64) => wD cI dA bA aA tA u.2.1 ++ [((oA 0), .inl (cJ, 1, .inr (.inl u.2.2)))]) := by
  refine zWH_intro (by decide +kernel) (Nat.le_of_ble_eq_true rfl) ?_
  intro p e s m below meth c A C htab hA hG hP hD hS ls hl
  have C : zC D (zty cI cB cJ) p s m ([.ref (dA 0), .int p1, .ref (oA 0)] : List Value).toArray meth c cL_textLength RL (some .int) 4 := C
  have hx := C.1
  have hb := C.2.1
  have hts := C.2.2.1
  have hown := C.2.2.2.1
  have hml := C.2.2.2.2.2.1
  have hK := C.2.2.2.2.2.2.2
  have hl : lv_has ls 4 [(0, .ref (dA 0)), (1, .int p1), (2, .ref (oA 0))] := hl
  have hP : va_P D vwCl (wD cI dA bA aA tA d ++ [((oA 0), .inl (cJ, 1, .inr (.inl w)))]) s.heap := hP
  have hD : va_D A (wD cI dA bA aA tA d ++ [((oA 0), .inl (cJ, 1, .inr (.inl w)))]) := hD
  unfold wpL_textLength at h
  refine lv_aload_n hx hb dL_textLength_0 rfl (lv_at hl 2 rfl) ?_
  refine lv_iconst (v := 0) hx hb dL_textLength_1 (by decide) ?_
  refine lv_aload_n hx hb dL_textLength_2 rfl (lv_at hl 0 rfl) ?_
  refine lv_iload_n hx hb dL_textLength_3 rfl (lv_at hl 1 rfl) ?_
  refine z_XV (As := [.int p1]) (rest := [.int 0, .ref (oA 0)]) (wr := (List.filterMap (fun i => (wD cI dA bA aA tA d ++ [((oA 0), .inl (cJ, 1, .inr (.inl w)))])[i]?) [22])) (wN := (fun _ : Int32 => wD cI dA bA aA tA d ++ [((oA 0), .inl (cJ, 1, .inr (.inl w)))])) [0, 1, 2, 3, 4, 5, 6, 7, 8, 9, 10, 11, 12, 13, 14, 15, 16, 17, 18, 19, 20, 21] [22] [1, 2, 3, 4, 5, 6, 7, 8, 9, 10, 11, 12, 13, 14, 15, 16, 17, 18, 19, 20, 21, 22, 0] [1, 2, 3, 4, 5, 6, 7, 8, 9, 10, 11, 12, 13, 14, 15, 16, 17, 18, 19, 20, 21, 22, 0] C hG hA hP hD hS (x_X2_textLength hfl hs0 D cI cB cJ dA bA aA tA d p1 h) q596 v_X2_textLength rfl rfl ⟨by decide, by decide, by decide⟩ (by decide) (fun _ => rfl) rfl rfl rfl rfl ⟨(Nat.le_of_ble_eq_true rfl), (Nat.le_of_ble_eq_true rfl)⟩ ⟨(Nat.le_of_ble_eq_true rfl), (Nat.le_of_ble_eq_true rfl)⟩ hl.1 rfl (lv_room (Nat.le_of_ble_eq_true rfl)) dL_textLength_4 ?_ ?_
  · intro E ce q9 H locs hE hP hS hce hcv hcl
    have hP : va_P D vwCl (wD cI dA bA aA tA d ++ [((oA 0), .inl (cJ, 1, .inr (.inl w)))]) H := hP
    rcases hE with ⟨rfl, h⟩
    refine vx_catch hown [] ⟨0, 9, 12, 21⟩ [] (htab.trans rfl) (fun z hz => absurd hz List.not_mem_nil) rfl (by decide) (hts _ q564) (z_cast hs0 hG.1 zc_i) hce hcv hcl ?_
    show W p l e _ s m _ below meth c _ _ _ _ _ (F0 m 12 ls [.ref q9])
    refine lv_astore_n (lv' := [(3, .ref q9), (0, .ref (dA 0)), (1, .int p1), (2, .ref (oA 0))]) hx hb dL_textLength_12 rfl hl (by decide) rfl (fun ls hl => ?_)
    refine lv_iconst (v := 1) hx hb dL_textLength_13 (by decide) ?_
    exact zW_iret C (1, d, w) rfl h hP hD hS (Nat.le_of_ble_eq_true rfl) (Nat.le_of_ble_eq_true rfl) dL_textLength_14
  · intro u H locs h hP hD hS
    obtain ⟨r4, rfl⟩ : ∃ z, z = u := ⟨_, rfl⟩
    have hP : va_P D vwCl (wD cI dA bA aA tA d ++ [((oA 0), .inl (cJ, 1, .inr (.inl w)))]) H := hP
    have hD : va_D A (wD cI dA bA aA tA d ++ [((oA 0), .inl (cJ, 1, .inr (.inl w)))]) := hD
    refine lv_i2l hx hb dL_textLength_7 rfl ?_
    refine va_last hx hb hK hP hD hS 22 2 rfl rfl (show ¬ ((0 : Int32) < 0 ∨ 1 ≤ (0 : Int32).toNatClampNeg) from by decide) dL_textLength_8 (fun H locs hP hD hS => ?_)
    have hP : va_P D vwCl (wD cI dA bA aA tA d ++ [((oA 0), .inl (cJ, 1, .inr (.inl (vp_updL w (0 : Int32).toNatClampNeg r4.toInt64))))]) H := hP
    have hD : va_D A (wD cI dA bA aA tA d ++ [((oA 0), .inl (cJ, 1, .inr (.inl (vp_updL w (0 : Int32).toNatClampNeg r4.toInt64))))]) := hD
    refine lv_goto (tgt := 15) hx hb dL_textLength_9 (by decide) ?_
    refine lv_iconst (v := 0) hx hb dL_textLength_15 (by decide) ?_
    exact zW_iret C (0, d, (vp_updL w (0 : Int32).toNatClampNeg r4.toInt64)) rfl h hP hD hS (Nat.le_of_ble_eq_true rfl) (Nat.le_of_ble_eq_true rfl) dL_textLength_16
def wpL_sealOf (post : Int32 → DS → (Nat → Int64) → Prop) (d : DS) (w : (Nat → Int64)) (p1 : Int32) : Prop := wpX2_sealOf (fun r4 => post 0 d (vp_updL w (0 : Int32).toNatClampNeg r4.toInt64)) (fun E9 : String => (E9 = "java/lang/IndexOutOfBoundsException" ∧ post 1 d w)) d p1
set_option maxHeartbeats 4000000 in
set_option maxRecDepth 100000 in
theorem c_L_sealOf {l : Launch} (hfl : l.stackTraces = false) {s0 : State} (hs0 : zS s0) (D : va_G) (cI cB cJ : ClassId) (dA : Nat → Nat) (bA : Nat → Nat) (aA : Nat → Nat) (tA : Nat → Nat) (oA : Nat → Nat) (d : DS) (w : (Nat → Int64)) (p1 : Int32) {post : Int32 → DS → (Nat → Int64) → Prop} (h : wpL_sealOf post d w p1) : zWH s0 l D (zty cI cB cJ) yL_sealOf cL_sealOf 4 (some .int) [(0, 9, 12, 21)] 8 1 6 [.ref (dA 0), .int p1, .ref (oA 0)] (wD cI dA bA aA tA d ++ [((oA 0), .inl (cJ, 1, .inr (.inl w)))]) (fun u : Int32 × DS × (Nat → Int64) => some (Value.int u.1)) (fun u : Int32 × DS × (Nat → Int64) => post u.1 u.2.1 u.2.2) (fun u : Int32 × DS × (Nat → Int64) => wD cI dA bA aA tA u.2.1 ++ [((oA 0), .inl (cJ, 1, .inr (.inl u.2.2)))]) := by
  refine zWH_intro (by decide +kernel) (Nat.le_of_ble_eq_true rfl) ?_
  intro p e s m below meth c A C htab hA hG hP hD hS ls hl
  have C : zC D (zty cI cB cJ) p s m ([.ref (dA 0), .int p1, .ref (oA 0)] : List Value).toArray meth c cL_sealOf RL (some .int) 4 := C
  have hx := C.1
  have hb := C.2.1
  have hts := C.2.2.1
  have hown := C.2.2.2.1
  have hml := C.2.2.2.2.2.1
  have hK := C.2.2.2.2.2.2.2
  have hl : lv_has ls 4 [(0, .ref (dA 0)), (1, .int p1), (2, .ref (oA 0))] := hl
  have hP : va_P D vwCl (wD cI dA bA aA tA d ++ [((oA 0), .inl (cJ, 1, .inr (.inl w)))]) s.heap := hP
  have hD : va_D A (wD cI dA bA aA tA d ++ [((oA 0), .inl (cJ, 1, .inr (.inl w)))]) := hD
  unfold wpL_sealOf at h
  refine lv_aload_n hx hb dL_sealOf_0 rfl (lv_at hl 2 rfl) ?_
  refine lv_iconst (v := 0) hx hb dL_sealOf_1 (by decide) ?_
  refine lv_aload_n hx hb dL_sealOf_2 rfl (lv_at hl 0 rfl) ?_
  refine lv_iload_n hx hb dL_sealOf_3 rfl (lv_at hl 1 rfl) ?_
  refine z_XV (As := [.int p1]) (rest := [.int 0, .ref (oA 0)]) (wr := (List.filterMap (fun i => (wD cI dA bA aA tA d ++ [((oA 0), .inl (cJ, 1, .inr (.inl w)))])[i]?) [22])) (wN := (fun _ : Int32 => wD cI dA bA aA tA d ++ [((oA 0), .inl (cJ, 1, .inr (.inl w)))])) [0, 1, 2, 3, 4, 5, 6, 7, 8, 9, 10, 11, 12, 13, 14, 15, 16, 17, 18, 19, 20, 21] [22] [1, 2, 3, 4, 5, 6, 7, 8, 9, 10, 11, 12, 13, 14, 15, 16, 17, 18, 19, 20, 21, 22, 0] [1, 2, 3, 4, 5, 6, 7, 8, 9, 10, 11, 12, 13, 14, 15, 16, 17, 18, 19, 20, 21, 22, 0] C hG hA hP hD hS (x_X2_sealOf hfl hs0 D cI cB cJ dA bA aA tA d p1 h) q597 v_X2_sealOf rfl rfl ⟨by decide, by decide, by decide⟩ (by decide) (fun _ => rfl) rfl rfl rfl rfl ⟨(Nat.le_of_ble_eq_true rfl), (Nat.le_of_ble_eq_true rfl)⟩ ⟨(Nat.le_of_ble_eq_true rfl), (Nat.le_of_ble_eq_true rfl)⟩ hl.1 rfl (lv_room (Nat.le_of_ble_eq_true rfl)) dL_sealOf_4 ?_ ?_
  · intro E ce q9 H locs hE hP hS hce hcv hcl
    have hP : va_P D vwCl (wD cI dA bA aA tA d ++ [((oA 0), .inl (cJ, 1, .inr (.inl w)))]) H := hP
    rcases hE with ⟨rfl, h⟩
    refine vx_catch hown [] ⟨0, 9, 12, 21⟩ [] (htab.trans rfl) (fun z hz => absurd hz List.not_mem_nil) rfl (by decide) (hts _ q564) (z_cast hs0 hG.1 zc_i) hce hcv hcl ?_
    show W p l e _ s m _ below meth c _ _ _ _ _ (F0 m 12 ls [.ref q9])
    refine lv_astore_n (lv' := [(3, .ref q9), (0, .ref (dA 0)), (1, .int p1), (2, .ref (oA 0))]) hx hb dL_sealOf_12 rfl hl (by decide) rfl (fun ls hl => ?_)
    refine lv_iconst (v := 1) hx hb dL_sealOf_13 (by decide) ?_
    exact zW_iret C (1, d, w) rfl h hP hD hS (Nat.le_of_ble_eq_true rfl) (Nat.le_of_ble_eq_true rfl) dL_sealOf_14
  · intro u H locs h hP hD hS
    obtain ⟨r4, rfl⟩ : ∃ z, z = u := ⟨_, rfl⟩
    have hP : va_P D vwCl (wD cI dA bA aA tA d ++ [((oA 0), .inl (cJ, 1, .inr (.inl w)))]) H := hP
    have hD : va_D A (wD cI dA bA aA tA d ++ [((oA 0), .inl (cJ, 1, .inr (.inl w)))]) := hD
    refine lv_i2l hx hb dL_sealOf_7 rfl ?_
    refine va_last hx hb hK hP hD hS 22 2 rfl rfl (show ¬ ((0 : Int32) < 0 ∨ 1 ≤ (0 : Int32).toNatClampNeg) from by decide) dL_sealOf_8 (fun H locs hP hD hS => ?_)
    have hP : va_P D vwCl (wD cI dA bA aA tA d ++ [((oA 0), .inl (cJ, 1, .inr (.inl (vp_updL w (0 : Int32).toNatClampNeg r4.toInt64))))]) H := hP
    have hD : va_D A (wD cI dA bA aA tA d ++ [((oA 0), .inl (cJ, 1, .inr (.inl (vp_updL w (0 : Int32).toNatClampNeg r4.toInt64))))]) := hD
    refine lv_goto (tgt := 15) hx hb dL_sealOf_9 (by decide) ?_
    refine lv_iconst (v := 0) hx hb dL_sealOf_15 (by decide) ?_
    exact zW_iret C (0, d, (vp_updL w (0 : Int32).toNatClampNeg r4.toInt64)) rfl h hP hD hS (Nat.le_of_ble_eq_true rfl) (Nat.le_of_ble_eq_true rfl) dL_sealOf_16
def wpL_owes (post : Int32 → DS → (Nat → Int64) → Prop) (d : DS) (w : (Nat → Int64)) (p1 : Int32) : Prop := wpX2_owes (fun r4 => post 0 d (vp_updL w (0 : Int32).toNatClampNeg r4.toInt64)) (fun E9 : String => (E9 = "java/lang/IndexOutOfBoundsException" ∧ post 1 d w)) d p1
set_option maxHeartbeats 4000000 in
set_option maxRecDepth 100000 in
theorem c_L_owes {l : Launch} (hfl : l.stackTraces = false) {s0 : State} (hs0 : zS s0) (D : va_G) (cI cB cJ : ClassId) (dA : Nat → Nat) (bA : Nat → Nat) (aA : Nat → Nat) (tA : Nat → Nat) (oA : Nat → Nat) (d : DS) (w : (Nat → Int64)) (p1 : Int32) {post : Int32 → DS → (Nat → Int64) → Prop} (h : wpL_owes post d w p1) : zWH s0 l D (zty cI cB cJ) yL_owes cL_owes 4 (some .int) [(0, 9, 12, 21)] 8 1 6 [.ref (dA 0), .int p1, .ref (oA 0)] (wD cI dA bA aA tA d ++ [((oA 0), .inl (cJ, 1, .inr (.inl w)))]) (fun u : Int32 × DS × (Nat → Int64) => some (Value.int u.1)) (fun u : Int32 × DS × (Nat → Int64) => post u.1 u.2.1 u.2.2) (fun u : Int32 × DS × (Nat → Int64) => wD cI dA bA aA tA u.2.1 ++ [((oA 0), .inl (cJ, 1, .inr (.inl u.2.2)))]) := by
  refine zWH_intro (by decide +kernel) (Nat.le_of_ble_eq_true rfl) ?_
  intro p e s m below meth c A C htab hA hG hP hD hS ls hl
  have C : zC D (zty cI cB cJ) p s m ([.ref (dA 0), .int p1, .ref (oA 0)] : List Value).toArray meth c cL_owes RL (some .int) 4 := C
  have hx := C.1
  have hb := C.2.1
  have hts := C.2.2.1
  have hown := C.2.2.2.1
  have hml := C.2.2.2.2.2.1
  have hK := C.2.2.2.2.2.2.2
  have hl : lv_has ls 4 [(0, .ref (dA 0)), (1, .int p1), (2, .ref (oA 0))] := hl
  have hP : va_P D vwCl (wD cI dA bA aA tA d ++ [((oA 0), .inl (cJ, 1, .inr (.inl w)))]) s.heap := hP
  have hD : va_D A (wD cI dA bA aA tA d ++ [((oA 0), .inl (cJ, 1, .inr (.inl w)))]) := hD
  unfold wpL_owes at h
  refine lv_aload_n hx hb dL_owes_0 rfl (lv_at hl 2 rfl) ?_
  refine lv_iconst (v := 0) hx hb dL_owes_1 (by decide) ?_
  refine lv_aload_n hx hb dL_owes_2 rfl (lv_at hl 0 rfl) ?_
  refine lv_iload_n hx hb dL_owes_3 rfl (lv_at hl 1 rfl) ?_
  refine z_XV (As := [.int p1]) (rest := [.int 0, .ref (oA 0)]) (wr := (List.filterMap (fun i => (wD cI dA bA aA tA d ++ [((oA 0), .inl (cJ, 1, .inr (.inl w)))])[i]?) [22])) (wN := (fun _ : Int32 => wD cI dA bA aA tA d ++ [((oA 0), .inl (cJ, 1, .inr (.inl w)))])) [0, 1, 2, 3, 4, 5, 6, 7, 8, 9, 10, 11, 12, 13, 14, 15, 16, 17, 18, 19, 20, 21] [22] [1, 2, 3, 4, 5, 6, 7, 8, 9, 10, 11, 12, 13, 14, 15, 16, 17, 18, 19, 20, 21, 22, 0] [1, 2, 3, 4, 5, 6, 7, 8, 9, 10, 11, 12, 13, 14, 15, 16, 17, 18, 19, 20, 21, 22, 0] C hG hA hP hD hS (x_X2_owes hfl hs0 D cI cB cJ dA bA aA tA d p1 h) q598 v_X2_owes rfl rfl ⟨by decide, by decide, by decide⟩ (by decide) (fun _ => rfl) rfl rfl rfl rfl ⟨(Nat.le_of_ble_eq_true rfl), (Nat.le_of_ble_eq_true rfl)⟩ ⟨(Nat.le_of_ble_eq_true rfl), (Nat.le_of_ble_eq_true rfl)⟩ hl.1 rfl (lv_room (Nat.le_of_ble_eq_true rfl)) dL_owes_4 ?_ ?_
  · intro E ce q9 H locs hE hP hS hce hcv hcl
    have hP : va_P D vwCl (wD cI dA bA aA tA d ++ [((oA 0), .inl (cJ, 1, .inr (.inl w)))]) H := hP
    rcases hE with ⟨rfl, h⟩
    refine vx_catch hown [] ⟨0, 9, 12, 21⟩ [] (htab.trans rfl) (fun z hz => absurd hz List.not_mem_nil) rfl (by decide) (hts _ q564) (z_cast hs0 hG.1 zc_i) hce hcv hcl ?_
    show W p l e _ s m _ below meth c _ _ _ _ _ (F0 m 12 ls [.ref q9])
    refine lv_astore_n (lv' := [(3, .ref q9), (0, .ref (dA 0)), (1, .int p1), (2, .ref (oA 0))]) hx hb dL_owes_12 rfl hl (by decide) rfl (fun ls hl => ?_)
    refine lv_iconst (v := 1) hx hb dL_owes_13 (by decide) ?_
    exact zW_iret C (1, d, w) rfl h hP hD hS (Nat.le_of_ble_eq_true rfl) (Nat.le_of_ble_eq_true rfl) dL_owes_14
  · intro u H locs h hP hD hS
    obtain ⟨r4, rfl⟩ : ∃ z, z = u := ⟨_, rfl⟩
    have hP : va_P D vwCl (wD cI dA bA aA tA d ++ [((oA 0), .inl (cJ, 1, .inr (.inl w)))]) H := hP
    have hD : va_D A (wD cI dA bA aA tA d ++ [((oA 0), .inl (cJ, 1, .inr (.inl w)))]) := hD
    refine lv_i2l hx hb dL_owes_7 rfl ?_
    refine va_last hx hb hK hP hD hS 22 2 rfl rfl (show ¬ ((0 : Int32) < 0 ∨ 1 ≤ (0 : Int32).toNatClampNeg) from by decide) dL_owes_8 (fun H locs hP hD hS => ?_)
    have hP : va_P D vwCl (wD cI dA bA aA tA d ++ [((oA 0), .inl (cJ, 1, .inr (.inl (vp_updL w (0 : Int32).toNatClampNeg r4.toInt64))))]) H := hP
    have hD : va_D A (wD cI dA bA aA tA d ++ [((oA 0), .inl (cJ, 1, .inr (.inl (vp_updL w (0 : Int32).toNatClampNeg r4.toInt64))))]) := hD
    refine lv_goto (tgt := 15) hx hb dL_owes_9 (by decide) ?_
    refine lv_iconst (v := 0) hx hb dL_owes_15 (by decide) ?_
    exact zW_iret C (0, d, (vp_updL w (0 : Int32).toNatClampNeg r4.toInt64)) rfl h hP hD hS (Nat.le_of_ble_eq_true rfl) (Nat.le_of_ble_eq_true rfl) dL_owes_16
def wpL_balance (post : Int32 → DS → (Nat → Int64) → Prop) (d : DS) (w : (Nat → Int64)) (p1 : Int32) (p2 : Int32) : Prop := wpX2_balance (fun r5 => post 0 d (vp_updL w (0 : Int32).toNatClampNeg r5.toInt64)) (fun E9 : String => (E9 = "java/lang/IndexOutOfBoundsException" ∧ post 1 d w)) d p1 p2
set_option maxHeartbeats 4000000 in
set_option maxRecDepth 100000 in
theorem c_L_balance {l : Launch} (hfl : l.stackTraces = false) {s0 : State} (hs0 : zS s0) (D : va_G) (cI cB cJ : ClassId) (dA : Nat → Nat) (bA : Nat → Nat) (aA : Nat → Nat) (tA : Nat → Nat) (oA : Nat → Nat) (d : DS) (w : (Nat → Int64)) (p1 : Int32) (p2 : Int32) {post : Int32 → DS → (Nat → Int64) → Prop} (h : wpL_balance post d w p1 p2) : zWH s0 l D (zty cI cB cJ) yL_balance cL_balance 5 (some .int) [(0, 10, 13, 21)] 8 2 12 [.ref (dA 0), .int p1, .int p2, .ref (oA 0)] (wD cI dA bA aA tA d ++ [((oA 0), .inl (cJ, 1, .inr (.inl w)))]) (fun u : Int32 × DS × (Nat → Int64) => some (Value.int u.1)) (fun u : Int32 × DS × (Nat → Int64) => post u.1 u.2.1 u.2.2) (fun u : Int32 × DS × (Nat → Int64) => wD cI dA bA aA tA u.2.1 ++ [((oA 0), .inl (cJ, 1, .inr (.inl u.2.2)))]) := by
  refine zWH_intro (by decide +kernel) (Nat.le_of_ble_eq_true rfl) ?_
  intro p e s m below meth c A C htab hA hG hP hD hS ls hl
  have C : zC D (zty cI cB cJ) p s m ([.ref (dA 0), .int p1, .int p2, .ref (oA 0)] : List Value).toArray meth c cL_balance RL (some .int) 5 := C
  have hx := C.1
  have hb := C.2.1
  have hts := C.2.2.1
  have hown := C.2.2.2.1
  have hml := C.2.2.2.2.2.1
  have hK := C.2.2.2.2.2.2.2
  have hl : lv_has ls 5 [(0, .ref (dA 0)), (1, .int p1), (2, .int p2), (3, .ref (oA 0))] := hl
  have hP : va_P D vwCl (wD cI dA bA aA tA d ++ [((oA 0), .inl (cJ, 1, .inr (.inl w)))]) s.heap := hP
  have hD : va_D A (wD cI dA bA aA tA d ++ [((oA 0), .inl (cJ, 1, .inr (.inl w)))]) := hD
  unfold wpL_balance at h
  refine lv_aload_n hx hb dL_balance_0 rfl (lv_at hl 3 rfl) ?_
  refine lv_iconst (v := 0) hx hb dL_balance_1 (by decide) ?_
  refine lv_aload_n hx hb dL_balance_2 rfl (lv_at hl 0 rfl) ?_
  refine lv_iload_n hx hb dL_balance_3 rfl (lv_at hl 1 rfl) ?_
  refine lv_iload_n hx hb dL_balance_4 rfl (lv_at hl 2 rfl) ?_
  refine z_XV (As := [.int p1, .int p2]) (rest := [.int 0, .ref (oA 0)]) (wr := (List.filterMap (fun i => (wD cI dA bA aA tA d ++ [((oA 0), .inl (cJ, 1, .inr (.inl w)))])[i]?) [22])) (wN := (fun _ : Int32 => wD cI dA bA aA tA d ++ [((oA 0), .inl (cJ, 1, .inr (.inl w)))])) [0, 1, 2, 3, 4, 5, 6, 7, 8, 9, 10, 11, 12, 13, 14, 15, 16, 17, 18, 19, 20, 21] [22] [1, 2, 3, 4, 5, 6, 7, 8, 9, 10, 11, 12, 13, 14, 15, 16, 17, 18, 19, 20, 21, 22, 0] [1, 2, 3, 4, 5, 6, 7, 8, 9, 10, 11, 12, 13, 14, 15, 16, 17, 18, 19, 20, 21, 22, 0] C hG hA hP hD hS (x_X2_balance hfl hs0 D cI cB cJ dA bA aA tA d p1 p2 h) q599 v_X2_balance rfl rfl ⟨by decide, by decide, by decide⟩ (by decide) (fun _ => rfl) rfl rfl rfl rfl ⟨(Nat.le_of_ble_eq_true rfl), (Nat.le_of_ble_eq_true rfl)⟩ ⟨(Nat.le_of_ble_eq_true rfl), (Nat.le_of_ble_eq_true rfl)⟩ hl.1 rfl (lv_room (Nat.le_of_ble_eq_true rfl)) dL_balance_5 ?_ ?_
  · intro E ce q9 H locs hE hP hS hce hcv hcl
    have hP : va_P D vwCl (wD cI dA bA aA tA d ++ [((oA 0), .inl (cJ, 1, .inr (.inl w)))]) H := hP
    rcases hE with ⟨rfl, h⟩
    refine vx_catch hown [] ⟨0, 10, 13, 21⟩ [] (htab.trans rfl) (fun z hz => absurd hz List.not_mem_nil) rfl (by decide) (hts _ q564) (z_cast hs0 hG.1 zc_i) hce hcv hcl ?_
    show W p l e _ s m _ below meth c _ _ _ _ _ (F0 m 13 ls [.ref q9])
    refine lv_astore (lv' := [(4, .ref q9), (0, .ref (dA 0)), (1, .int p1), (2, .int p2), (3, .ref (oA 0))]) hx hb dL_balance_13 hl (by decide) rfl (fun ls hl => ?_)
    refine lv_iconst (v := 1) hx hb dL_balance_15 (by decide) ?_
    exact zW_iret C (1, d, w) rfl h hP hD hS (Nat.le_of_ble_eq_true rfl) (Nat.le_of_ble_eq_true rfl) dL_balance_16
  · intro u H locs h hP hD hS
    obtain ⟨r5, rfl⟩ : ∃ z, z = u := ⟨_, rfl⟩
    have hP : va_P D vwCl (wD cI dA bA aA tA d ++ [((oA 0), .inl (cJ, 1, .inr (.inl w)))]) H := hP
    have hD : va_D A (wD cI dA bA aA tA d ++ [((oA 0), .inl (cJ, 1, .inr (.inl w)))]) := hD
    refine lv_i2l hx hb dL_balance_8 rfl ?_
    refine va_last hx hb hK hP hD hS 22 2 rfl rfl (show ¬ ((0 : Int32) < 0 ∨ 1 ≤ (0 : Int32).toNatClampNeg) from by decide) dL_balance_9 (fun H locs hP hD hS => ?_)
    have hP : va_P D vwCl (wD cI dA bA aA tA d ++ [((oA 0), .inl (cJ, 1, .inr (.inl (vp_updL w (0 : Int32).toNatClampNeg r5.toInt64))))]) H := hP
    have hD : va_D A (wD cI dA bA aA tA d ++ [((oA 0), .inl (cJ, 1, .inr (.inl (vp_updL w (0 : Int32).toNatClampNeg r5.toInt64))))]) := hD
    refine lv_goto (tgt := 17) hx hb dL_balance_10 (by decide) ?_
    refine lv_iconst (v := 0) hx hb dL_balance_17 (by decide) ?_
    exact zW_iret C (0, d, (vp_updL w (0 : Int32).toNatClampNeg r5.toInt64)) rfl h hP hD hS (Nat.le_of_ble_eq_true rfl) (Nat.le_of_ble_eq_true rfl) dL_balance_18
def wpL_daysUntilFailed (post : Int32 → DS → (Nat → Int64) → Prop) (d : DS) (w : (Nat → Int64)) (p1 : Int32) : Prop := wpX2_daysUntilFailed (fun r4 => post 0 d (vp_updL w (0 : Int32).toNatClampNeg r4.toInt64)) (fun E9 : String => (E9 = "java/lang/IndexOutOfBoundsException" ∧ post 1 d w)) d p1
set_option maxHeartbeats 4000000 in
set_option maxRecDepth 100000 in
theorem c_L_daysUntilFailed {l : Launch} (hfl : l.stackTraces = false) {s0 : State} (hs0 : zS s0) (D : va_G) (cI cB cJ : ClassId) (dA : Nat → Nat) (bA : Nat → Nat) (aA : Nat → Nat) (tA : Nat → Nat) (oA : Nat → Nat) (d : DS) (w : (Nat → Int64)) (p1 : Int32) {post : Int32 → DS → (Nat → Int64) → Prop} (h : wpL_daysUntilFailed post d w p1) : zWH s0 l D (zty cI cB cJ) yL_daysUntilFailed cL_daysUntilFailed 4 (some .int) [(0, 9, 12, 21)] 8 1 6 [.ref (dA 0), .int p1, .ref (oA 0)] (wD cI dA bA aA tA d ++ [((oA 0), .inl (cJ, 1, .inr (.inl w)))]) (fun u : Int32 × DS × (Nat → Int64) => some (Value.int u.1)) (fun u : Int32 × DS × (Nat → Int64) => post u.1 u.2.1 u.2.2) (fun u : Int32 × DS × (Nat → Int64) => wD cI dA bA aA tA u.2.1 ++ [((oA 0), .inl (cJ, 1, .inr (.inl u.2.2)))]) := by
  refine zWH_intro (by decide +kernel) (Nat.le_of_ble_eq_true rfl) ?_
  intro p e s m below meth c A C htab hA hG hP hD hS ls hl
  have C : zC D (zty cI cB cJ) p s m ([.ref (dA 0), .int p1, .ref (oA 0)] : List Value).toArray meth c cL_daysUntilFailed RL (some .int) 4 := C
  have hx := C.1
  have hb := C.2.1
  have hts := C.2.2.1
  have hown := C.2.2.2.1
  have hml := C.2.2.2.2.2.1
  have hK := C.2.2.2.2.2.2.2
  have hl : lv_has ls 4 [(0, .ref (dA 0)), (1, .int p1), (2, .ref (oA 0))] := hl
  have hP : va_P D vwCl (wD cI dA bA aA tA d ++ [((oA 0), .inl (cJ, 1, .inr (.inl w)))]) s.heap := hP
  have hD : va_D A (wD cI dA bA aA tA d ++ [((oA 0), .inl (cJ, 1, .inr (.inl w)))]) := hD
  unfold wpL_daysUntilFailed at h
  refine lv_aload_n hx hb dL_daysUntilFailed_0 rfl (lv_at hl 2 rfl) ?_
  refine lv_iconst (v := 0) hx hb dL_daysUntilFailed_1 (by decide) ?_
  refine lv_aload_n hx hb dL_daysUntilFailed_2 rfl (lv_at hl 0 rfl) ?_
  refine lv_iload_n hx hb dL_daysUntilFailed_3 rfl (lv_at hl 1 rfl) ?_
  refine z_XV (As := [.int p1]) (rest := [.int 0, .ref (oA 0)]) (wr := (List.filterMap (fun i => (wD cI dA bA aA tA d ++ [((oA 0), .inl (cJ, 1, .inr (.inl w)))])[i]?) [22])) (wN := (fun _ : Int32 => wD cI dA bA aA tA d ++ [((oA 0), .inl (cJ, 1, .inr (.inl w)))])) [0, 1, 2, 3, 4, 5, 6, 7, 8, 9, 10, 11, 12, 13, 14, 15, 16, 17, 18, 19, 20, 21] [22] [1, 2, 3, 4, 5, 6, 7, 8, 9, 10, 11, 12, 13, 14, 15, 16, 17, 18, 19, 20, 21, 22, 0] [1, 2, 3, 4, 5, 6, 7, 8, 9, 10, 11, 12, 13, 14, 15, 16, 17, 18, 19, 20, 21, 22, 0] C hG hA hP hD hS (x_X2_daysUntilFailed hfl hs0 D cI cB cJ dA bA aA tA d p1 h) q600 v_X2_daysUntilFailed rfl rfl ⟨by decide, by decide, by decide⟩ (by decide) (fun _ => rfl) rfl rfl rfl rfl ⟨(Nat.le_of_ble_eq_true rfl), (Nat.le_of_ble_eq_true rfl)⟩ ⟨(Nat.le_of_ble_eq_true rfl), (Nat.le_of_ble_eq_true rfl)⟩ hl.1 rfl (lv_room (Nat.le_of_ble_eq_true rfl)) dL_daysUntilFailed_4 ?_ ?_
  · intro E ce q9 H locs hE hP hS hce hcv hcl
    have hP : va_P D vwCl (wD cI dA bA aA tA d ++ [((oA 0), .inl (cJ, 1, .inr (.inl w)))]) H := hP
    rcases hE with ⟨rfl, h⟩
    refine vx_catch hown [] ⟨0, 9, 12, 21⟩ [] (htab.trans rfl) (fun z hz => absurd hz List.not_mem_nil) rfl (by decide) (hts _ q564) (z_cast hs0 hG.1 zc_i) hce hcv hcl ?_
    show W p l e _ s m _ below meth c _ _ _ _ _ (F0 m 12 ls [.ref q9])
    refine lv_astore_n (lv' := [(3, .ref q9), (0, .ref (dA 0)), (1, .int p1), (2, .ref (oA 0))]) hx hb dL_daysUntilFailed_12 rfl hl (by decide) rfl (fun ls hl => ?_)
    refine lv_iconst (v := 1) hx hb dL_daysUntilFailed_13 (by decide) ?_
    exact zW_iret C (1, d, w) rfl h hP hD hS (Nat.le_of_ble_eq_true rfl) (Nat.le_of_ble_eq_true rfl) dL_daysUntilFailed_14
  · intro u H locs h hP hD hS
    obtain ⟨r4, rfl⟩ : ∃ z, z = u := ⟨_, rfl⟩
    have hP : va_P D vwCl (wD cI dA bA aA tA d ++ [((oA 0), .inl (cJ, 1, .inr (.inl w)))]) H := hP
    have hD : va_D A (wD cI dA bA aA tA d ++ [((oA 0), .inl (cJ, 1, .inr (.inl w)))]) := hD
    refine lv_i2l hx hb dL_daysUntilFailed_7 rfl ?_
    refine va_last hx hb hK hP hD hS 22 2 rfl rfl (show ¬ ((0 : Int32) < 0 ∨ 1 ≤ (0 : Int32).toNatClampNeg) from by decide) dL_daysUntilFailed_8 (fun H locs hP hD hS => ?_)
    have hP : va_P D vwCl (wD cI dA bA aA tA d ++ [((oA 0), .inl (cJ, 1, .inr (.inl (vp_updL w (0 : Int32).toNatClampNeg r4.toInt64))))]) H := hP
    have hD : va_D A (wD cI dA bA aA tA d ++ [((oA 0), .inl (cJ, 1, .inr (.inl (vp_updL w (0 : Int32).toNatClampNeg r4.toInt64))))]) := hD
    refine lv_goto (tgt := 15) hx hb dL_daysUntilFailed_9 (by decide) ?_
    refine lv_iconst (v := 0) hx hb dL_daysUntilFailed_15 (by decide) ?_
    exact zW_iret C (0, d, (vp_updL w (0 : Int32).toNatClampNeg r4.toInt64)) rfl h hP hD hS (Nat.le_of_ble_eq_true rfl) (Nat.le_of_ble_eq_true rfl) dL_daysUntilFailed_16
def wpL_purseIn (post : Int32 → DS → (Nat → Int64) → Prop) (d : DS) (w : (Nat → Int64)) (p1 : Int32) (p2 : Int32) : Prop := wpX2_purseIn (fun r5 d5 => post 0 d5 (vp_updL w (0 : Int32).toNatClampNeg r5.toInt64)) (fun E9 : String => (E9 = "java/lang/IndexOutOfBoundsException" ∧ post 1 d w) ∨ (E9 = "java/lang/IllegalArgumentException" ∧ post 2 d w)) d p1 p2
set_option maxHeartbeats 4000000 in
set_option maxRecDepth 100000 in
theorem c_L_purseIn {l : Launch} (hfl : l.stackTraces = false) {s0 : State} (hs0 : zS s0) (D : va_G) (cI cB cJ : ClassId) (dA : Nat → Nat) (bA : Nat → Nat) (aA : Nat → Nat) (tA : Nat → Nat) (oA : Nat → Nat) (d : DS) (w : (Nat → Int64)) (p1 : Int32) (p2 : Int32) {post : Int32 → DS → (Nat → Int64) → Prop} (h : wpL_purseIn post d w p1 p2) : zWH s0 l D (zty cI cB cJ) yL_purseIn cL_purseIn 5 (some .int) [(0, 10, 13, 21), (0, 10, 17, 13)] 8 2 12 [.ref (dA 0), .int p1, .int p2, .ref (oA 0)] (wD cI dA bA aA tA d ++ [((oA 0), .inl (cJ, 1, .inr (.inl w)))]) (fun u : Int32 × DS × (Nat → Int64) => some (Value.int u.1)) (fun u : Int32 × DS × (Nat → Int64) => post u.1 u.2.1 u.2.2) (fun u : Int32 × DS × (Nat → Int64) => wD cI dA bA aA tA u.2.1 ++ [((oA 0), .inl (cJ, 1, .inr (.inl u.2.2)))]) := by
  refine zWH_intro (by decide +kernel) (Nat.le_of_ble_eq_true rfl) ?_
  intro p e s m below meth c A C htab hA hG hP hD hS ls hl
  have C : zC D (zty cI cB cJ) p s m ([.ref (dA 0), .int p1, .int p2, .ref (oA 0)] : List Value).toArray meth c cL_purseIn RL (some .int) 5 := C
  have hx := C.1
  have hb := C.2.1
  have hts := C.2.2.1
  have hown := C.2.2.2.1
  have hml := C.2.2.2.2.2.1
  have hK := C.2.2.2.2.2.2.2
  have hl : lv_has ls 5 [(0, .ref (dA 0)), (1, .int p1), (2, .int p2), (3, .ref (oA 0))] := hl
  have hP : va_P D vwCl (wD cI dA bA aA tA d ++ [((oA 0), .inl (cJ, 1, .inr (.inl w)))]) s.heap := hP
  have hD : va_D A (wD cI dA bA aA tA d ++ [((oA 0), .inl (cJ, 1, .inr (.inl w)))]) := hD
  unfold wpL_purseIn at h
  refine lv_aload_n hx hb dL_purseIn_0 rfl (lv_at hl 3 rfl) ?_
  refine lv_iconst (v := 0) hx hb dL_purseIn_1 (by decide) ?_
  refine lv_aload_n hx hb dL_purseIn_2 rfl (lv_at hl 0 rfl) ?_
  refine lv_iload_n hx hb dL_purseIn_3 rfl (lv_at hl 1 rfl) ?_
  refine lv_iload_n hx hb dL_purseIn_4 rfl (lv_at hl 2 rfl) ?_
  refine z_XV (As := [.int p1, .int p2]) (rest := [.int 0, .ref (oA 0)]) (wr := (List.filterMap (fun i => (wD cI dA bA aA tA d ++ [((oA 0), .inl (cJ, 1, .inr (.inl w)))])[i]?) [22])) (wN := (fun u : Int32 × DS => wD cI dA bA aA tA u.2 ++ [((oA 0), .inl (cJ, 1, .inr (.inl w)))])) [0, 1, 2, 3, 4, 5, 6, 7, 8, 9, 10, 11, 12, 13, 14, 15, 16, 17, 18, 19, 20, 21] [22] [1, 2, 3, 4, 5, 6, 7, 8, 9, 10, 11, 12, 13, 14, 15, 16, 17, 18, 19, 20, 21, 22, 0] [1, 2, 3, 4, 5, 6, 7, 8, 9, 10, 11, 12, 13, 14, 15, 16, 17, 18, 19, 20, 21, 22, 0] C hG hA hP hD hS (x_X2_purseIn hfl hs0 D cI cB cJ dA bA aA tA d p1 p2 h) q601 v_X2_purseIn rfl rfl ⟨by decide, by decide, by decide⟩ (by decide) (fun _ => rfl) rfl rfl rfl rfl ⟨(Nat.le_of_ble_eq_true rfl), (Nat.le_of_ble_eq_true rfl)⟩ ⟨(Nat.le_of_ble_eq_true rfl), (Nat.le_of_ble_eq_true rfl)⟩ hl.1 rfl (lv_room (Nat.le_of_ble_eq_true rfl)) dL_purseIn_5 ?_ ?_
  · intro E ce q9 H locs hE hP hS hce hcv hcl
    have hP : va_P D vwCl (wD cI dA bA aA tA d ++ [((oA 0), .inl (cJ, 1, .inr (.inl w)))]) H := hP
    rcases hE with ⟨rfl, h⟩ | ⟨rfl, h⟩
    · refine vx_catch hown [] ⟨0, 10, 13, 21⟩ [⟨0, 10, 17, 13⟩] (htab.trans rfl) (fun z hz => absurd hz List.not_mem_nil) rfl (by decide) (hts _ q564) (z_cast hs0 hG.1 zc_i) hce hcv hcl ?_
      show W p l e _ s m _ below meth c _ _ _ _ _ (F0 m 13 ls [.ref q9])
      refine lv_astore (lv' := [(4, .ref q9), (0, .ref (dA 0)), (1, .int p1), (2, .int p2), (3, .ref (oA 0))]) hx hb dL_purseIn_13 hl (by decide) rfl (fun ls hl => ?_)
      refine lv_iconst (v := 1) hx hb dL_purseIn_15 (by decide) ?_
      exact zW_iret C (1, d, w) rfl h hP hD hS (Nat.le_of_ble_eq_true rfl) (Nat.le_of_ble_eq_true rfl) dL_purseIn_16
    · refine vx_catch hown [⟨0, 10, 13, 21⟩] ⟨0, 10, 17, 13⟩ [] (htab.trans rfl) (List.forall_mem_cons.mpr ⟨Or.inr ⟨by decide, "java/lang/IndexOutOfBoundsException", hts _ q564, z_ncast hs0 hG.1 zn_ai⟩, (fun z hz => absurd hz List.not_mem_nil)⟩) rfl (by decide) (hts _ q558) (z_cast hs0 hG.1 zc_a) hce hcv hcl ?_
      show W p l e _ s m _ below meth c _ _ _ _ _ (F0 m 17 ls [.ref q9])
      refine lv_astore (lv' := [(4, .ref q9), (0, .ref (dA 0)), (1, .int p1), (2, .int p2), (3, .ref (oA 0))]) hx hb dL_purseIn_17 hl (by decide) rfl (fun ls hl => ?_)
      refine lv_iconst (v := 2) hx hb dL_purseIn_19 (by decide) ?_
      exact zW_iret C (2, d, w) rfl h hP hD hS (Nat.le_of_ble_eq_true rfl) (Nat.le_of_ble_eq_true rfl) dL_purseIn_20
  · intro u H locs h hP hD hS
    obtain ⟨r5, d5⟩ := u
    have hP : va_P D vwCl (wD cI dA bA aA tA d5 ++ [((oA 0), .inl (cJ, 1, .inr (.inl w)))]) H := hP
    have hD : va_D A (wD cI dA bA aA tA d5 ++ [((oA 0), .inl (cJ, 1, .inr (.inl w)))]) := hD
    refine lv_i2l hx hb dL_purseIn_8 rfl ?_
    refine va_last hx hb hK hP hD hS 22 2 rfl rfl (show ¬ ((0 : Int32) < 0 ∨ 1 ≤ (0 : Int32).toNatClampNeg) from by decide) dL_purseIn_9 (fun H locs hP hD hS => ?_)
    have hP : va_P D vwCl (wD cI dA bA aA tA d5 ++ [((oA 0), .inl (cJ, 1, .inr (.inl (vp_updL w (0 : Int32).toNatClampNeg r5.toInt64))))]) H := hP
    have hD : va_D A (wD cI dA bA aA tA d5 ++ [((oA 0), .inl (cJ, 1, .inr (.inl (vp_updL w (0 : Int32).toNatClampNeg r5.toInt64))))]) := hD
    refine lv_goto (tgt := 21) hx hb dL_purseIn_10 (by decide) ?_
    refine lv_iconst (v := 0) hx hb dL_purseIn_21 (by decide) ?_
    exact zW_iret C (0, d5, (vp_updL w (0 : Int32).toNatClampNeg r5.toInt64)) rfl h hP hD hS (Nat.le_of_ble_eq_true rfl) (Nat.le_of_ble_eq_true rfl) dL_purseIn_22
def wpL_bestToPay (post : Int32 → DS → (Nat → Int64) → Prop) (d : DS) (w : (Nat → Int64)) (p1 : Int32) : Prop := wpX2_bestToPay (fun r4 d4 => post 0 d4 (vp_updL w (0 : Int32).toNatClampNeg r4.toInt64)) (fun E9 : String => (E9 = "java/lang/IndexOutOfBoundsException" ∧ post 1 d w)) d p1
set_option maxHeartbeats 4000000 in
set_option maxRecDepth 100000 in
theorem c_L_bestToPay {l : Launch} (hfl : l.stackTraces = false) {s0 : State} (hs0 : zS s0) (D : va_G) (cI cB cJ : ClassId) (dA : Nat → Nat) (bA : Nat → Nat) (aA : Nat → Nat) (tA : Nat → Nat) (oA : Nat → Nat) (d : DS) (w : (Nat → Int64)) (p1 : Int32) {post : Int32 → DS → (Nat → Int64) → Prop} (h : wpL_bestToPay post d w p1) : zWH s0 l D (zty cI cB cJ) yL_bestToPay cL_bestToPay 4 (some .int) [(0, 9, 12, 21)] 8 1 6 [.ref (dA 0), .int p1, .ref (oA 0)] (wD cI dA bA aA tA d ++ [((oA 0), .inl (cJ, 1, .inr (.inl w)))]) (fun u : Int32 × DS × (Nat → Int64) => some (Value.int u.1)) (fun u : Int32 × DS × (Nat → Int64) => post u.1 u.2.1 u.2.2) (fun u : Int32 × DS × (Nat → Int64) => wD cI dA bA aA tA u.2.1 ++ [((oA 0), .inl (cJ, 1, .inr (.inl u.2.2)))]) := by
  refine zWH_intro (by decide +kernel) (Nat.le_of_ble_eq_true rfl) ?_
  intro p e s m below meth c A C htab hA hG hP hD hS ls hl
  have C : zC D (zty cI cB cJ) p s m ([.ref (dA 0), .int p1, .ref (oA 0)] : List Value).toArray meth c cL_bestToPay RL (some .int) 4 := C
  have hx := C.1
  have hb := C.2.1
  have hts := C.2.2.1
  have hown := C.2.2.2.1
  have hml := C.2.2.2.2.2.1
  have hK := C.2.2.2.2.2.2.2
  have hl : lv_has ls 4 [(0, .ref (dA 0)), (1, .int p1), (2, .ref (oA 0))] := hl
  have hP : va_P D vwCl (wD cI dA bA aA tA d ++ [((oA 0), .inl (cJ, 1, .inr (.inl w)))]) s.heap := hP
  have hD : va_D A (wD cI dA bA aA tA d ++ [((oA 0), .inl (cJ, 1, .inr (.inl w)))]) := hD
  unfold wpL_bestToPay at h
  refine lv_aload_n hx hb dL_bestToPay_0 rfl (lv_at hl 2 rfl) ?_
  refine lv_iconst (v := 0) hx hb dL_bestToPay_1 (by decide) ?_
  refine lv_aload_n hx hb dL_bestToPay_2 rfl (lv_at hl 0 rfl) ?_
  refine lv_iload_n hx hb dL_bestToPay_3 rfl (lv_at hl 1 rfl) ?_
  refine z_XV (As := [.int p1]) (rest := [.int 0, .ref (oA 0)]) (wr := (List.filterMap (fun i => (wD cI dA bA aA tA d ++ [((oA 0), .inl (cJ, 1, .inr (.inl w)))])[i]?) [22])) (wN := (fun u : Int32 × DS => wD cI dA bA aA tA u.2 ++ [((oA 0), .inl (cJ, 1, .inr (.inl w)))])) [0, 1, 2, 3, 4, 5, 6, 7, 8, 9, 10, 11, 12, 13, 14, 15, 16, 17, 18, 19, 20, 21] [22] [1, 2, 3, 4, 5, 6, 7, 8, 9, 10, 11, 12, 13, 14, 15, 16, 17, 18, 19, 20, 21, 22, 0] [1, 2, 3, 4, 5, 6, 7, 8, 9, 10, 11, 12, 13, 14, 15, 16, 17, 18, 19, 20, 21, 22, 0] C hG hA hP hD hS (x_X2_bestToPay hfl hs0 D cI cB cJ dA bA aA tA d p1 h) q602 v_X2_bestToPay rfl rfl ⟨by decide, by decide, by decide⟩ (by decide) (fun _ => rfl) rfl rfl rfl rfl ⟨(Nat.le_of_ble_eq_true rfl), (Nat.le_of_ble_eq_true rfl)⟩ ⟨(Nat.le_of_ble_eq_true rfl), (Nat.le_of_ble_eq_true rfl)⟩ hl.1 rfl (lv_room (Nat.le_of_ble_eq_true rfl)) dL_bestToPay_4 ?_ ?_
  · intro E ce q9 H locs hE hP hS hce hcv hcl
    have hP : va_P D vwCl (wD cI dA bA aA tA d ++ [((oA 0), .inl (cJ, 1, .inr (.inl w)))]) H := hP
    rcases hE with ⟨rfl, h⟩
    refine vx_catch hown [] ⟨0, 9, 12, 21⟩ [] (htab.trans rfl) (fun z hz => absurd hz List.not_mem_nil) rfl (by decide) (hts _ q564) (z_cast hs0 hG.1 zc_i) hce hcv hcl ?_
    show W p l e _ s m _ below meth c _ _ _ _ _ (F0 m 12 ls [.ref q9])
    refine lv_astore_n (lv' := [(3, .ref q9), (0, .ref (dA 0)), (1, .int p1), (2, .ref (oA 0))]) hx hb dL_bestToPay_12 rfl hl (by decide) rfl (fun ls hl => ?_)
    refine lv_iconst (v := 1) hx hb dL_bestToPay_13 (by decide) ?_
    exact zW_iret C (1, d, w) rfl h hP hD hS (Nat.le_of_ble_eq_true rfl) (Nat.le_of_ble_eq_true rfl) dL_bestToPay_14
  · intro u H locs h hP hD hS
    obtain ⟨r4, d4⟩ := u
    have hP : va_P D vwCl (wD cI dA bA aA tA d4 ++ [((oA 0), .inl (cJ, 1, .inr (.inl w)))]) H := hP
    have hD : va_D A (wD cI dA bA aA tA d4 ++ [((oA 0), .inl (cJ, 1, .inr (.inl w)))]) := hD
    refine lv_i2l hx hb dL_bestToPay_7 rfl ?_
    refine va_last hx hb hK hP hD hS 22 2 rfl rfl (show ¬ ((0 : Int32) < 0 ∨ 1 ≤ (0 : Int32).toNatClampNeg) from by decide) dL_bestToPay_8 (fun H locs hP hD hS => ?_)
    have hP : va_P D vwCl (wD cI dA bA aA tA d4 ++ [((oA 0), .inl (cJ, 1, .inr (.inl (vp_updL w (0 : Int32).toNatClampNeg r4.toInt64))))]) H := hP
    have hD : va_D A (wD cI dA bA aA tA d4 ++ [((oA 0), .inl (cJ, 1, .inr (.inl (vp_updL w (0 : Int32).toNatClampNeg r4.toInt64))))]) := hD
    refine lv_goto (tgt := 15) hx hb dL_bestToPay_9 (by decide) ?_
    refine lv_iconst (v := 0) hx hb dL_bestToPay_15 (by decide) ?_
    exact zW_iret C (0, d4, (vp_updL w (0 : Int32).toNatClampNeg r4.toInt64)) rfl h hP hD hS (Nat.le_of_ble_eq_true rfl) (Nat.le_of_ble_eq_true rfl) dL_bestToPay_16
theorem q603 : (Jvm.Cond.static ({ cls := "PactClocksLaw", name := "addParty", desc := "(LPactClocks;I[J)I" } : Jvm.MethodName)) ∈ lw_all := mt2 156 (by decide +kernel) (by decide +kernel)
theorem q604 : (Jvm.Cond.initialized "PactClocksLaw") ∈ lw_all := mt1 0 (by decide +kernel) (by decide +kernel)
theorem q605 : (Jvm.Cond.codeWith ({ cls := "PactClocksLaw", name := "addParty", desc := "(LPactClocks;I[J)I" } : Jvm.MethodName) method_3_code (4 : Nat) (Option.some Jvm.ClassFile.FieldType.int) [((0 : Nat), (9 : Nat), (12 : Nat), (13 : Nat)), ((0 : Nat), (9 : Nat), (15 : Nat), (15 : Nat))]) ∈ lw_all := mt2 157 (by decide +kernel) (by decide +kernel)
theorem q606 : (Jvm.Cond.static ({ cls := "PactClocksLaw", name := "addDuty", desc := "(LPactClocks;IIIIIII[J)I" } : Jvm.MethodName)) ∈ lw_all := mt2 181 (by decide +kernel) (by decide +kernel)
theorem q607 : (Jvm.Cond.codeWith ({ cls := "PactClocksLaw", name := "addDuty", desc := "(LPactClocks;IIIIIII[J)I" } : Jvm.MethodName) method_4_code (10 : Nat) (Option.some Jvm.ClassFile.FieldType.int) [((0 : Nat), (20 : Nat), (23 : Nat), (21 : Nat)), ((0 : Nat), (20 : Nat), (27 : Nat), (13 : Nat)), ((0 : Nat), (20 : Nat), (31 : Nat), (15 : Nat))]) ∈ lw_all := mt2 182 (by decide +kernel) (by decide +kernel)
theorem q608 : (Jvm.Cond.static ({ cls := "PactClocksLaw", name := "pay", desc := "(LPactClocks;I[J)I" } : Jvm.MethodName)) ∈ lw_all := mt3 185 (by decide +kernel) (by decide +kernel)
theorem q609 : (Jvm.Cond.codeWith ({ cls := "PactClocksLaw", name := "pay", desc := "(LPactClocks;I[J)I" } : Jvm.MethodName) method_5_code (4 : Nat) (Option.some Jvm.ClassFile.FieldType.int) [((0 : Nat), (9 : Nat), (12 : Nat), (21 : Nat)), ((0 : Nat), (9 : Nat), (15 : Nat), (15 : Nat))]) ∈ lw_all := mt3 186 (by decide +kernel) (by decide +kernel)
theorem q610 : (Jvm.Cond.static ({ cls := "PactClocksLaw", name := "release", desc := "(LPactClocks;I[J)I" } : Jvm.MethodName)) ∈ lw_all := mt3 193 (by decide +kernel) (by decide +kernel)
theorem q611 : (Jvm.Cond.codeWith ({ cls := "PactClocksLaw", name := "release", desc := "(LPactClocks;I[J)I" } : Jvm.MethodName) method_6_code (4 : Nat) (Option.some Jvm.ClassFile.FieldType.int) [((0 : Nat), (9 : Nat), (12 : Nat), (21 : Nat)), ((0 : Nat), (9 : Nat), (15 : Nat), (15 : Nat))]) ∈ lw_all := mt3 194 (by decide +kernel) (by decide +kernel)
theorem q612 : (Jvm.Cond.static ({ cls := "PactClocksLaw", name := "stop", desc := "(LPactClocks;II[J)I" } : Jvm.MethodName)) ∈ lw_all := mt3 203 (by decide +kernel) (by decide +kernel)
theorem q613 : (Jvm.Cond.codeWith ({ cls := "PactClocksLaw", name := "stop", desc := "(LPactClocks;II[J)I" } : Jvm.MethodName) method_7_code (5 : Nat) (Option.some Jvm.ClassFile.FieldType.int) [((0 : Nat), (10 : Nat), (13 : Nat), (21 : Nat)), ((0 : Nat), (10 : Nat), (17 : Nat), (13 : Nat)), ((0 : Nat), (10 : Nat), (21 : Nat), (15 : Nat))]) ∈ lw_all := mt3 204 (by decide +kernel) (by decide +kernel)
theorem q614 : (Jvm.Cond.static ({ cls := "PactClocksLaw", name := "give", desc := "(LPactClocks;II[J)I" } : Jvm.MethodName)) ∈ lw_all := mt3 211 (by decide +kernel) (by decide +kernel)
theorem q615 : (Jvm.Cond.codeWith ({ cls := "PactClocksLaw", name := "give", desc := "(LPactClocks;II[J)I" } : Jvm.MethodName) method_8_code (5 : Nat) (Option.some Jvm.ClassFile.FieldType.int) [((0 : Nat), (10 : Nat), (13 : Nat), (21 : Nat)), ((0 : Nat), (10 : Nat), (17 : Nat), (13 : Nat))]) ∈ lw_all := mt3 212 (by decide +kernel) (by decide +kernel)
theorem q616 : (Jvm.Cond.static ({ cls := "PactClocksLaw", name := "pass", desc := "(LPactClocks;I[J)I" } : Jvm.MethodName)) ∈ lw_all := mt3 218 (by decide +kernel) (by decide +kernel)
theorem q617 : (Jvm.Cond.codeWith ({ cls := "PactClocksLaw", name := "pass", desc := "(LPactClocks;I[J)I" } : Jvm.MethodName) method_9_code (4 : Nat) (Option.some Jvm.ClassFile.FieldType.int) [((0 : Nat), (9 : Nat), (12 : Nat), (13 : Nat))]) ∈ lw_all := mt3 219 (by decide +kernel) (by decide +kernel)
theorem q618 : (Jvm.Cond.static ({ cls := "PactClocksLaw", name := "inState", desc := "(LPactClocks;I[J)I" } : Jvm.MethodName)) ∈ lw_all := mt3 225 (by decide +kernel) (by decide +kernel)
theorem q619 : (Jvm.Cond.codeWith ({ cls := "PactClocksLaw", name := "inState", desc := "(LPactClocks;I[J)I" } : Jvm.MethodName) method_10_code (4 : Nat) (Option.some Jvm.ClassFile.FieldType.int) [((0 : Nat), (9 : Nat), (12 : Nat), (13 : Nat))]) ∈ lw_all := mt3 226 (by decide +kernel) (by decide +kernel)
theorem q620 : (Jvm.Cond.static ({ cls := "PactClocksLaw", name := "purseOf", desc := "(LPactClocks;I[J)I" } : Jvm.MethodName)) ∈ lw_all := mt3 229 (by decide +kernel) (by decide +kernel)
theorem q621 : (Jvm.Cond.codeWith ({ cls := "PactClocksLaw", name := "purseOf", desc := "(LPactClocks;I[J)I" } : Jvm.MethodName) method_11_code (4 : Nat) (Option.some Jvm.ClassFile.FieldType.int) [((0 : Nat), (9 : Nat), (12 : Nat), (21 : Nat))]) ∈ lw_all := mt3 230 (by decide +kernel) (by decide +kernel)
theorem q622 : (Jvm.Cond.static ({ cls := "PactClocksLaw", name := "stateOf", desc := "(LPactClocks;I[J)I" } : Jvm.MethodName)) ∈ lw_all := mt3 233 (by decide +kernel) (by decide +kernel)
theorem q623 : (Jvm.Cond.codeWith ({ cls := "PactClocksLaw", name := "stateOf", desc := "(LPactClocks;I[J)I" } : Jvm.MethodName) method_12_code (4 : Nat) (Option.some Jvm.ClassFile.FieldType.int) [((0 : Nat), (9 : Nat), (12 : Nat), (21 : Nat))]) ∈ lw_all := mt3 234 (by decide +kernel) (by decide +kernel)
theorem q624 : (Jvm.Cond.static ({ cls := "PactClocksLaw", name := "daysLeft", desc := "(LPactClocks;I[J)I" } : Jvm.MethodName)) ∈ lw_all := mt3 237 (by decide +kernel) (by decide +kernel)
theorem q625 : (Jvm.Cond.codeWith ({ cls := "PactClocksLaw", name := "daysLeft", desc := "(LPactClocks;I[J)I" } : Jvm.MethodName) method_13_code (4 : Nat) (Option.some Jvm.ClassFile.FieldType.int) [((0 : Nat), (9 : Nat), (12 : Nat), (21 : Nat))]) ∈ lw_all := mt3 238 (by decide +kernel) (by decide +kernel)
theorem q626 : (Jvm.Cond.static ({ cls := "PactClocksLaw", name := "stoppedFor", desc := "(LPactClocks;I[J)I" } : Jvm.MethodName)) ∈ lw_all := mt4 1 (by decide +kernel) (by decide +kernel)
theorem q627 : (Jvm.Cond.codeWith ({ cls := "PactClocksLaw", name := "stoppedFor", desc := "(LPactClocks;I[J)I" } : Jvm.MethodName) method_14_code (4 : Nat) (Option.some Jvm.ClassFile.FieldType.int) [((0 : Nat), (9 : Nat), (12 : Nat), (21 : Nat))]) ∈ lw_all := mt4 2 (by decide +kernel) (by decide +kernel)
theorem q628 : (Jvm.Cond.static ({ cls := "PactClocksLaw", name := "priceOf", desc := "(LPactClocks;I[J)I" } : Jvm.MethodName)) ∈ lw_all := mt4 5 (by decide +kernel) (by decide +kernel)
theorem q629 : (Jvm.Cond.codeWith ({ cls := "PactClocksLaw", name := "priceOf", desc := "(LPactClocks;I[J)I" } : Jvm.MethodName) method_15_code (4 : Nat) (Option.some Jvm.ClassFile.FieldType.int) [((0 : Nat), (9 : Nat), (12 : Nat), (21 : Nat))]) ∈ lw_all := mt4 6 (by decide +kernel) (by decide +kernel)
theorem q630 : (Jvm.Cond.static ({ cls := "PactClocksLaw", name := "hanging", desc := "(LPactClocks;I[J)I" } : Jvm.MethodName)) ∈ lw_all := mt4 9 (by decide +kernel) (by decide +kernel)
theorem q631 : (Jvm.Cond.codeWith ({ cls := "PactClocksLaw", name := "hanging", desc := "(LPactClocks;I[J)I" } : Jvm.MethodName) method_16_code (4 : Nat) (Option.some Jvm.ClassFile.FieldType.int) [((0 : Nat), (9 : Nat), (12 : Nat), (21 : Nat))]) ∈ lw_all := mt4 10 (by decide +kernel) (by decide +kernel)
theorem q632 : (Jvm.Cond.static ({ cls := "PactClocksLaw", name := "depthOf", desc := "(LPactClocks;I[J)I" } : Jvm.MethodName)) ∈ lw_all := mt4 13 (by decide +kernel) (by decide +kernel)
theorem q633 : (Jvm.Cond.codeWith ({ cls := "PactClocksLaw", name := "depthOf", desc := "(LPactClocks;I[J)I" } : Jvm.MethodName) method_17_code (4 : Nat) (Option.some Jvm.ClassFile.FieldType.int) [((0 : Nat), (9 : Nat), (12 : Nat), (21 : Nat))]) ∈ lw_all := mt4 14 (by decide +kernel) (by decide +kernel)
theorem q634 : (Jvm.Cond.static ({ cls := "PactClocksLaw", name := "textLength", desc := "(LPactClocks;I[J)I" } : Jvm.MethodName)) ∈ lw_all := mt4 17 (by decide +kernel) (by decide +kernel)
theorem q635 : (Jvm.Cond.codeWith ({ cls := "PactClocksLaw", name := "textLength", desc := "(LPactClocks;I[J)I" } : Jvm.MethodName) method_18_code (4 : Nat) (Option.some Jvm.ClassFile.FieldType.int) [((0 : Nat), (9 : Nat), (12 : Nat), (21 : Nat))]) ∈ lw_all := mt4 18 (by decide +kernel) (by decide +kernel)
theorem q636 : (Jvm.Cond.static ({ cls := "PactClocksLaw", name := "sealOf", desc := "(LPactClocks;I[J)I" } : Jvm.MethodName)) ∈ lw_all := mt4 24 (by decide +kernel) (by decide +kernel)
theorem q637 : (Jvm.Cond.codeWith ({ cls := "PactClocksLaw", name := "sealOf", desc := "(LPactClocks;I[J)I" } : Jvm.MethodName) method_19_code (4 : Nat) (Option.some Jvm.ClassFile.FieldType.int) [((0 : Nat), (9 : Nat), (12 : Nat), (21 : Nat))]) ∈ lw_all := mt4 25 (by decide +kernel) (by decide +kernel)
theorem q638 : (Jvm.Cond.static ({ cls := "PactClocksLaw", name := "owes", desc := "(LPactClocks;I[J)I" } : Jvm.MethodName)) ∈ lw_all := mt4 28 (by decide +kernel) (by decide +kernel)
theorem q639 : (Jvm.Cond.codeWith ({ cls := "PactClocksLaw", name := "owes", desc := "(LPactClocks;I[J)I" } : Jvm.MethodName) method_20_code (4 : Nat) (Option.some Jvm.ClassFile.FieldType.int) [((0 : Nat), (9 : Nat), (12 : Nat), (21 : Nat))]) ∈ lw_all := mt4 29 (by decide +kernel) (by decide +kernel)
theorem q640 : (Jvm.Cond.static ({ cls := "PactClocksLaw", name := "balance", desc := "(LPactClocks;II[J)I" } : Jvm.MethodName)) ∈ lw_all := mt4 32 (by decide +kernel) (by decide +kernel)
theorem q641 : (Jvm.Cond.codeWith ({ cls := "PactClocksLaw", name := "balance", desc := "(LPactClocks;II[J)I" } : Jvm.MethodName) method_21_code (5 : Nat) (Option.some Jvm.ClassFile.FieldType.int) [((0 : Nat), (10 : Nat), (13 : Nat), (21 : Nat))]) ∈ lw_all := mt4 33 (by decide +kernel) (by decide +kernel)
theorem q642 : (Jvm.Cond.static ({ cls := "PactClocksLaw", name := "daysUntilFailed", desc := "(LPactClocks;I[J)I" } : Jvm.MethodName)) ∈ lw_all := mt4 36 (by decide +kernel) (by decide +kernel)
theorem q643 : (Jvm.Cond.codeWith ({ cls := "PactClocksLaw", name := "daysUntilFailed", desc := "(LPactClocks;I[J)I" } : Jvm.MethodName) method_22_code (4 : Nat) (Option.some Jvm.ClassFile.FieldType.int) [((0 : Nat), (9 : Nat), (12 : Nat), (21 : Nat))]) ∈ lw_all := mt4 37 (by decide +kernel) (by decide +kernel)
theorem q644 : (Jvm.Cond.static ({ cls := "PactClocksLaw", name := "purseIn", desc := "(LPactClocks;II[J)I" } : Jvm.MethodName)) ∈ lw_all := mt4 40 (by decide +kernel) (by decide +kernel)
theorem q645 : (Jvm.Cond.codeWith ({ cls := "PactClocksLaw", name := "purseIn", desc := "(LPactClocks;II[J)I" } : Jvm.MethodName) method_23_code (5 : Nat) (Option.some Jvm.ClassFile.FieldType.int) [((0 : Nat), (10 : Nat), (13 : Nat), (21 : Nat)), ((0 : Nat), (10 : Nat), (17 : Nat), (13 : Nat))]) ∈ lw_all := mt4 41 (by decide +kernel) (by decide +kernel)
theorem q646 : (Jvm.Cond.static ({ cls := "PactClocksLaw", name := "bestToPay", desc := "(LPactClocks;I[J)I" } : Jvm.MethodName)) ∈ lw_all := mt4 44 (by decide +kernel) (by decide +kernel)
theorem q647 : (Jvm.Cond.codeWith ({ cls := "PactClocksLaw", name := "bestToPay", desc := "(LPactClocks;I[J)I" } : Jvm.MethodName) method_24_code (4 : Nat) (Option.some Jvm.ClassFile.FieldType.int) [((0 : Nat), (9 : Nat), (12 : Nat), (21 : Nat))]) ∈ lw_all := mt4 45 (by decide +kernel) (by decide +kernel)
theorem v_L_addParty : zSH yL_addParty cL_addParty 4 (some .int) [(0, 9, 12, 13), (0, 9, 15, 15)] 3 := ⟨q603, q604, q605, by decide +kernel, by decide +kernel, by decide +kernel⟩
theorem v_L_addDuty : zSH yL_addDuty cL_addDuty 10 (some .int) [(0, 20, 23, 21), (0, 20, 27, 13), (0, 20, 31, 15)] 9 := ⟨q606, q604, q607, by decide +kernel, by decide +kernel, by decide +kernel⟩
theorem v_L_pay : zSH yL_pay cL_pay 4 (some .int) [(0, 9, 12, 21), (0, 9, 15, 15)] 3 := ⟨q608, q604, q609, by decide +kernel, by decide +kernel, by decide +kernel⟩
theorem v_L_release : zSH yL_release cL_release 4 (some .int) [(0, 9, 12, 21), (0, 9, 15, 15)] 3 := ⟨q610, q604, q611, by decide +kernel, by decide +kernel, by decide +kernel⟩
theorem v_L_stop : zSH yL_stop cL_stop 5 (some .int) [(0, 10, 13, 21), (0, 10, 17, 13), (0, 10, 21, 15)] 4 := ⟨q612, q604, q613, by decide +kernel, by decide +kernel, by decide +kernel⟩
theorem v_L_give : zSH yL_give cL_give 5 (some .int) [(0, 10, 13, 21), (0, 10, 17, 13)] 4 := ⟨q614, q604, q615, by decide +kernel, by decide +kernel, by decide +kernel⟩
theorem v_L_pass : zSH yL_pass cL_pass 4 (some .int) [(0, 9, 12, 13)] 3 := ⟨q616, q604, q617, by decide +kernel, by decide +kernel, by decide +kernel⟩
theorem v_L_inState : zSH yL_inState cL_inState 4 (some .int) [(0, 9, 12, 13)] 3 := ⟨q618, q604, q619, by decide +kernel, by decide +kernel, by decide +kernel⟩
theorem v_L_purseOf : zSH yL_purseOf cL_purseOf 4 (some .int) [(0, 9, 12, 21)] 3 := ⟨q620, q604, q621, by decide +kernel, by decide +kernel, by decide +kernel⟩
theorem v_L_stateOf : zSH yL_stateOf cL_stateOf 4 (some .int) [(0, 9, 12, 21)] 3 := ⟨q622, q604, q623, by decide +kernel, by decide +kernel, by decide +kernel⟩
theorem v_L_daysLeft : zSH yL_daysLeft cL_daysLeft 4 (some .int) [(0, 9, 12, 21)] 3 := ⟨q624, q604, q625, by decide +kernel, by decide +kernel, by decide +kernel⟩
theorem v_L_stoppedFor : zSH yL_stoppedFor cL_stoppedFor 4 (some .int) [(0, 9, 12, 21)] 3 := ⟨q626, q604, q627, by decide +kernel, by decide +kernel, by decide +kernel⟩
theorem v_L_priceOf : zSH yL_priceOf cL_priceOf 4 (some .int) [(0, 9, 12, 21)] 3 := ⟨q628, q604, q629, by decide +kernel, by decide +kernel, by decide +kernel⟩
theorem v_L_hanging : zSH yL_hanging cL_hanging 4 (some .int) [(0, 9, 12, 21)] 3 := ⟨q630, q604, q631, by decide +kernel, by decide +kernel, by decide +kernel⟩
theorem v_L_depthOf : zSH yL_depthOf cL_depthOf 4 (some .int) [(0, 9, 12, 21)] 3 := ⟨q632, q604, q633, by decide +kernel, by decide +kernel, by decide +kernel⟩
theorem v_L_textLength : zSH yL_textLength cL_textLength 4 (some .int) [(0, 9, 12, 21)] 3 := ⟨q634, q604, q635, by decide +kernel, by decide +kernel, by decide +kernel⟩
theorem v_L_sealOf : zSH yL_sealOf cL_sealOf 4 (some .int) [(0, 9, 12, 21)] 3 := ⟨q636, q604, q637, by decide +kernel, by decide +kernel, by decide +kernel⟩
theorem v_L_owes : zSH yL_owes cL_owes 4 (some .int) [(0, 9, 12, 21)] 3 := ⟨q638, q604, q639, by decide +kernel, by decide +kernel, by decide +kernel⟩
theorem v_L_balance : zSH yL_balance cL_balance 5 (some .int) [(0, 10, 13, 21)] 4 := ⟨q640, q604, q641, by decide +kernel, by decide +kernel, by decide +kernel⟩
theorem v_L_daysUntilFailed : zSH yL_daysUntilFailed cL_daysUntilFailed 4 (some .int) [(0, 9, 12, 21)] 3 := ⟨q642, q604, q643, by decide +kernel, by decide +kernel, by decide +kernel⟩
theorem v_L_purseIn : zSH yL_purseIn cL_purseIn 5 (some .int) [(0, 10, 13, 21), (0, 10, 17, 13)] 4 := ⟨q644, q604, q645, by decide +kernel, by decide +kernel, by decide +kernel⟩
theorem v_L_bestToPay : zSH yL_bestToPay cL_bestToPay 4 (some .int) [(0, 9, 12, 21)] 3 := ⟨q646, q604, q647, by decide +kernel, by decide +kernel, by decide +kernel⟩

/-! THE PRELUDE: one list of words for all contracts; three kinds of contract (zR: reads alone; zW: writes its world; zX: may throw); rows for fields, calls, ends. -/
/-- the private methods of AbstractStringBuilder, as a StringBuilder selects them -/
def lw_inh : List Cond := [(Cond.selects "java/lang/StringBuilder" (⟨"java/lang/AbstractStringBuilder", "newCapacity", "(I)I"⟩ : MethodName) (⟨"java/lang/AbstractStringBuilder", "newCapacity", "(I)I"⟩ : MethodName)), (Cond.selects "java/lang/StringBuilder" (⟨"java/lang/AbstractStringBuilder", "ensureCapacityInternal", "(I)V"⟩ : MethodName) (⟨"java/lang/AbstractStringBuilder", "ensureCapacityInternal", "(I)V"⟩ : MethodName)), (Cond.selects "java/lang/StringBuilder" (⟨"java/lang/AbstractStringBuilder", "putStringAt", "(ILjava/lang/String;)V"⟩ : MethodName) (⟨"java/lang/AbstractStringBuilder", "putStringAt", "(ILjava/lang/String;)V"⟩ : MethodName)), (Cond.selects "java/lang/StringBuilder" (⟨"java/lang/AbstractStringBuilder", "inflateIfNeededFor", "(Ljava/lang/String;)V"⟩ : MethodName) (⟨"java/lang/AbstractStringBuilder", "inflateIfNeededFor", "(Ljava/lang/String;)V"⟩ : MethodName))]
def lw_tb2 : List Cond := lw_inh ++ lw_tbl
def lw_all : List Cond := lw_tb2.filter goodWord
theorem lw_all_tbl {w : Cond} (h : w ∈ lw_all) : w ∈ lw_inh ∨ w ∈ lw_tbl := List.mem_append.mp (List.mem_filter.mp h).1
theorem lw_all_good {w : Cond} (h : w ∈ lw_all) : goodWord w = true := (List.mem_filter.mp h).2
theorem mt0 {w : Cond} (i : Nat) (h : (k2_sels lw_privs)[i]? = some w) (g : goodWord w = true) : w ∈ lw_all := List.mem_filter.mpr ⟨List.mem_append_right lw_inh (List.mem_append_left _ (List.mem_of_getElem? h)), g⟩
theorem mt1 {w : Cond} (i : Nat) (h : tables_1_1[i]? = some w) (g : goodWord w = true) : w ∈ lw_all := List.mem_filter.mpr ⟨List.mem_append_right lw_inh (List.mem_append_right _ (List.mem_append_left _ (List.mem_of_getElem? h))), g⟩
theorem mt2 {w : Cond} (i : Nat) (h : tables_1_2[i]? = some w) (g : goodWord w = true) : w ∈ lw_all := List.mem_filter.mpr ⟨List.mem_append_right lw_inh (List.mem_append_right _ (List.mem_append_right _ (List.mem_append_left _ (List.mem_of_getElem? h)))), g⟩
theorem mt3 {w : Cond} (i : Nat) (h : tables_1_3[i]? = some w) (g : goodWord w = true) : w ∈ lw_all := List.mem_filter.mpr ⟨List.mem_append_right lw_inh (List.mem_append_right _ (List.mem_append_right _ (List.mem_append_right _ (List.mem_append_left _ (List.mem_of_getElem? h))))), g⟩
theorem mt4 {w : Cond} (i : Nat) (h : tables_1_4[i]? = some w) (g : goodWord w = true) : w ∈ lw_all := List.mem_filter.mpr ⟨List.mem_append_right lw_inh (List.mem_append_right _ (List.mem_append_right _ (List.mem_append_right _ (List.mem_append_right _ (List.mem_append_left _ (List.mem_of_getElem? h)))))), g⟩
theorem mt5 {w : Cond} (i : Nat) (h : tables_1_5[i]? = some w) (g : goodWord w = true) : w ∈ lw_all := List.mem_filter.mpr ⟨List.mem_append_right lw_inh (List.mem_append_right _ (List.mem_append_right _ (List.mem_append_right _ (List.mem_append_right _ (List.mem_append_right _ (List.mem_append_left _ (List.mem_of_getElem? h))))))), g⟩
theorem mt6 {w : Cond} (i : Nat) (h : tables_1_6[i]? = some w) (g : goodWord w = true) : w ∈ lw_all := List.mem_filter.mpr ⟨List.mem_append_right lw_inh (List.mem_append_right _ (List.mem_append_right _ (List.mem_append_right _ (List.mem_append_right _ (List.mem_append_right _ (List.mem_append_right _ (List.mem_of_getElem? h))))))), g⟩
theorem mt7 {w : Cond} (i : Nat) (h : lw_inh[i]? = some w) (g : goodWord w = true) : w ∈ lw_all := List.mem_filter.mpr ⟨List.mem_append_left _ (List.mem_of_getElem? h), g⟩
def ws_ (y : MethodName) (c : ByteArray) (n : Nat) (r : Option FieldType) : List Cond := .code y c n r :: lw_all
theorem ws_good {w : Cond} (h : w ∈ lw_all) : GoodIn lw_all (w :: lw_all) := fun v hv => by
  have hm : v ∈ lw_all := (List.mem_cons.mp hv).elim (fun e => e ▸ h) id
  exact ⟨hm, good_of_word (lw_all_good hm)⟩
theorem ws_in {args : Array Value} {s : State} {w : Cond} (h : ∀ v ∈ w :: lw_all, v.before args s = true) : ∀ v ∈ lw_all, v.before args s = true := fun v hv => h v (List.mem_cons_of_mem _ hv)
/-- the law's own start, of which the Statement speaks -/
def zS (s0 : State) : Prop := ∃ a0 : Array Value, (∀ w ∈ lw_tbl, w.before a0 s0 = true) ∧ (Jvm.Cond.and given_1 narrow_1).before a0 s0 = true
/-- nothing that was there at the law's start has changed, and none of it may be written -/
def zG (s0 : State) (A : Nat → Prop) (U : State) (H : Heap) : Prop := s0.WarmedH U.vm ∧ (∀ q : Nat, A q → s0.heap.size ≤ q) ∧ s0.heap.size ≤ H.size ∧ ∀ q : Nat, q < s0.heap.size → H[q]? = s0.heap[q]?
theorem zG.kept {s0 U : State} {A : Nat → Prop} {H H1 : Heap} (h : zG s0 A U H) (z : H.size ≤ H1.size) (hq : ∀ q : Nat, q < H.size → ¬ A q → H1[q]? = H[q]?) : zG s0 A U H1 :=
  ⟨h.1, h.2.1, Nat.le_trans h.2.2.1 z, fun q hl => (hq q (Nat.lt_of_lt_of_le hl h.2.2.1) (fun ha => absurd (h.2.1 q ha) (Nat.not_le.mpr hl))).trans (h.2.2.2 q hl)⟩
theorem zG.narrow {s0 U : State} {A B : Nat → Prop} {H : Heap} (h : zG s0 A U H) (hB : ∀ q, B q → A q) : zG s0 B U H := ⟨h.1, fun q hq => h.2.1 q (hB q hq), h.2.2⟩
theorem zG.warm {s0 U V : State} {A : Nat → Prop} {H : Heap} (h : zG s0 A U H) (hW : U.WarmedH V.vm) : zG s0 A V H := ⟨State.WarmedH.trans h.1 hW, h.2⟩
theorem zG.none {s0 U : State} {A : Nat → Prop} {H : Heap} (h : zG s0 A U H) : zG s0 (fun _ => False) U H := h.narrow (fun _ hf => hf.elim)
abbrev zr (k mc ms : Nat) : Room := { frames := k, cells := mc, slots := ms, locals := 40 * k }
/-- what holds in a method's body of its frame and of the tables -/
def zC (D : va_G) (tys : List (ClassId × FieldType)) (p : Program) (s : State) (m : MethodId) (args : Array Value) (meth : Method) (c : Code) (cc : ByteArray) (own : String) (rt : Option FieldType) (nL : Nat) : Prop :=
  p.tables.exec = Jvm.exec ∧ c.code = cc ∧ (∀ w ∈ lw_all, w.before args s = true) ∧ s.vm.findClass own = some m.cls ∧ meth.sig.returnType = rt ∧ c.maxLocals = nL ∧ meth.locks = false ∧ va_K D vwCl tys s
-- ===== contracts =====
def zQr {S : Type} (rv : S → Option Value) (post : S → Prop) : Array Value → State → Outcome → State → Prop := fun _ st oc t => ∃ u : S, oc = .returned (rv u) ∧ post u ∧ t.heap = st.heap
def zQ {S : Type} (D : va_G) (rv : S → Option Value) (post : S → Prop) (w1 : S → va_W) (A : Nat → Prop) : Array Value → State → Outcome → State → Prop := fun _ st oc t => (∃ u : S, oc = .returned (rv u) ∧ post u ∧ va_P D vwCl (w1 u) t.heap ∧ va_D A (w1 u)) ∧ va_F A st t
def zXC (D : va_G) (px : String → Prop) (w0 : va_W) (A : Nat → Prop) : String → State → State → Prop := fun E st t => px E ∧ va_P D vwCl w0 t.heap ∧ va_F A st t
def zPr (s0 : State) (D : va_G) (tys : List (ClassId × FieldType)) (args : List Value) (w : va_W) : Array Value → State → Prop := va_Pc args (fun U => va_P D vwCl w U.heap ∧ va_K D vwCl tys U ∧ zG s0 (fun _ => False) U U.heap)
def zPw (s0 : State) (D : va_G) (tys : List (ClassId × FieldType)) (args : List Value) (w : va_W) (sz : Nat) : Array Value → State → Prop := va_Pc args (fun U => U.heap.size = sz ∧ va_P D vwCl w U.heap ∧ va_K D vwCl tys U ∧ va_D (fun _ => True) w ∧ zG s0 (va_A w sz) U U.heap)
/-- a method that reads its world and leaves the heap as it is -/
def zR (s0 : State) (l : Launch) (D : va_G) (tys : List (ClassId × FieldType)) (y : MethodName) (c : ByteArray) (n : Nat) (rt : Option FieldType) (k : Nat) (args : List Value) (w : va_W) {S : Type} (rv : S → Option Value) (post : S → Prop) : Prop :=
  Met l y (ws_ y c n rt) (zr k 0 0) (zPr s0 D tys args w) (zQr rv post) 0 0 (fun _ => False)
/-- a method that turns the world w0 into w1 u -/
def zW (s0 : State) (l : Launch) (D : va_G) (tys : List (ClassId × FieldType)) (y : MethodName) (c : ByteArray) (n : Nat) (rt : Option FieldType) (k mc ms : Nat) (args : List Value) (w0 : va_W) {S : Type} (rv : S → Option Value) (post : S → Prop) (w1 : S → va_W) : Prop :=
  ∀ sz : Nat, Met l y (ws_ y c n rt) (zr k mc ms) (zPw s0 D tys args w0 sz) (zQ D rv post w1 (va_A w0 sz)) mc ms (va_A w0 sz)
/-- one that may throw, and then has left its world as it was -/
def zX (s0 : State) (l : Launch) (D : va_G) (tys : List (ClassId × FieldType)) (y : MethodName) (c : ByteArray) (n : Nat) (rt : Option FieldType) (k mc ms : Nat) (args : List Value) (w0 : va_W) {S : Type} (rv : S → Option Value) (post : S → Prop) (w1 : S → va_W) (px : String → Prop) : Prop :=
  ∀ sz : Nat, vx_Met l y (ws_ y c n rt) (zr k mc ms) (zPw s0 D tys args w0 sz) (zQ D rv post w1 (va_A w0 sz)) (zXC D px w0 (va_A w0 sz)) mc ms (va_A w0 sz)
theorem zPr_blind {s0 : State} {D : va_G} {tys : List (ClassId × FieldType)} {args : List Value} {w : va_W} : FrameBlind (zPr s0 D tys args w) := fun a U g mk q => by
  obtain ⟨q0, q1, q2, q3⟩ := q
  exact ⟨q0, q1, va_K.moved (u := U) (U := U.calling g mk a) (Vm.Alike.refl U.vm) q2, q3⟩
theorem zPw_blind {s0 : State} {D : va_G} {tys : List (ClassId × FieldType)} {args : List Value} {w : va_W} {sz : Nat} : FrameBlind (zPw s0 D tys args w sz) := fun a U g mk q => by
  obtain ⟨q0, q1, q2, q3, q4, q5⟩ := q
  exact ⟨q0, q1, q2, va_K.moved (u := U) (U := U.calling g mk a) (Vm.Alike.refl U.vm) q3, q4, q5⟩
section Intro
variable {s0 : State} {l : Launch} {D : va_G} {tys : List (ClassId × FieldType)} {y : MethodName} {cc : ByteArray} {n : Nat} {rt : Option FieldType} {k mc ms : Nat} {al : List Value} {w0 : va_W}
theorem zR_intro {S : Type} {rv : S → Option Value} {post : S → Prop} (hy : plainName y.cls = true) (ha : (lg_sl al).length ≤ n)
    (body : ∀ (p : Program) (e : Env) (s : State) (m : MethodId) (below : List Frame) (meth : Method) (c : Code), zC D tys p s m al.toArray meth c cc y.cls rt n → va_P D vwCl w0 s.heap → zG s0 (fun _ => False) s s.heap →
      ∀ ls : Array Slot, lv_has ls n (lv_args 0 al) → W p l e (zr k 0 0) s m al.toArray below meth c s.heap [] 0 0 (MQ below (zQr rv post) al.toArray s 0 0 (fun _ => False)) (F0 m 0 ls [])) :
    zR s0 l D tys y cc n rt k al w0 rv post := by
  refine Met.ofW (cc := cc) (maxL := n) (ret := rt) hy rfl ?_
  intro p e s m args below meth c s₁ B hml hv
  obtain ⟨rfl, hP, hK, hG⟩ := hv
  have hts := ws_in (atoms_spec (ws := ws_ y cc n rt) B.pre)
  have hl := lv_entry al (n := n) ha
  rw [lg_entry_eq]
  exact body p e s m below meth c ⟨B.exec, B.bytes, hts, findClass_of_methodNamed B.named, B.returns, hml, B.notSynchronized, hK⟩ hP hG _ hl
theorem zW_intro {S : Type} {rv : S → Option Value} {post : S → Prop} {w1 : S → va_W} (hy : plainName y.cls = true) (ha : (lg_sl al).length ≤ n)
    (body : ∀ (p : Program) (e : Env) (s : State) (m : MethodId) (below : List Frame) (meth : Method) (c : Code) (A : Nat → Prop), zC D tys p s m al.toArray meth c cc y.cls rt n → meth.name = y.name → (∀ q : Nat, s.heap.size ≤ q → A q) → zG s0 A s s.heap → va_P D vwCl w0 s.heap → va_D A w0 → va_S A s.heap s.heap [] →
      ∀ ls : Array Slot, lv_has ls n (lv_args 0 al) → W p l e (zr k mc ms) s m al.toArray below meth c s.heap [] 0 0 (MQ below (zQ D rv post w1 A) al.toArray s mc ms A) (F0 m 0 ls [])) :
    zW s0 l D tys y cc n rt k mc ms al w0 rv post w1 := by
  intro sz
  refine Met.ofW (cc := cc) (maxL := n) (ret := rt) hy rfl ?_
  intro p e s m args below meth c s₁ B hml hv
  obtain ⟨rfl, hsz, hP, hK, hD0, hG⟩ := hv
  subst hsz
  have hts := ws_in (atoms_spec (ws := ws_ y cc n rt) B.pre)
  have hl := lv_entry al (n := n) ha
  rw [lg_entry_eq]
  exact body p e s m below meth c _ ⟨B.exec, B.bytes, hts, findClass_of_methodNamed B.named, B.returns, hml, B.notSynchronized, hK⟩ (name_of_methodNamed B.named B.method).1 (fun q h => Or.inr h) hG hP (hD0.self (sz := s.heap.size)) va_S.rf _ hl
theorem zX_intro {S : Type} {rv : S → Option Value} {post : S → Prop} {w1 : S → va_W} {px : String → Prop} (hy : plainName y.cls = true) (ha : (lg_sl al).length ≤ n)
    (body : ∀ (p : Program) (e : Env) (s : State) (m : MethodId) (below : List Frame) (meth : Method) (c : Code) (A : Nat → Prop), zC D tys p s m al.toArray meth c cc y.cls rt n → (∀ x ∈ c.exceptionTable.toList, False) → (∀ q : Nat, s.heap.size ≤ q → A q) → zG s0 A s s.heap → va_P D vwCl w0 s.heap → va_D A w0 → va_S A s.heap s.heap [] →
      ∀ ls : Array Slot, lv_has ls n (lv_args 0 al) → W p l e (zr k mc ms) s m al.toArray below meth c s.heap [] 0 0 (vx_MQ below (zQ D rv post w1 A) (zXC D px w0 A) al.toArray s mc ms A) (F0 m 0 ls [])) :
    zX s0 l D tys y cc n rt k mc ms al w0 rv post w1 px := by
  intro sz
  refine vx_ofW (cc := cc) (maxL := n) (ret := rt) hy rfl ?_
  intro p e s m args below meth c s₁ B hml hnt hv
  obtain ⟨rfl, hsz, hP, hK, hD0, hG⟩ := hv
  subst hsz
  have hts := ws_in (atoms_spec (ws := ws_ y cc n rt) B.pre)
  have hl := lv_entry al (n := n) ha
  rw [lg_entry_eq]
  exact body p e s m below meth c _ ⟨B.exec, B.bytes, hts, findClass_of_methodNamed B.named, B.returns, hml, B.notSynchronized, hK⟩ hnt (fun q h => Or.inr h) hG hP (hD0.self (sz := s.heap.size)) va_S.rf _ hl
end Intro

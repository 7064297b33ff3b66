/-! THE LAW'S LOOP AND ITS ENTRY -/
/-! THE CLAIM OUT OF ONE WALK OF THE LAW'S BODY. Your part is whole_start (and what it stands on); all else here is the same for every law, but numbers. -/
def R_law : String := "PactClocksLaw"
def lw_P (b : Addr) (xs : List Int32) (args : Array Value) (s : State) : Prop := args = #[.ref b] ∧ s.IntsAt b xs ∧ xs.length ≤ 4096 ∧ (Jvm.Cond.and given_1 narrow_1).before args s = true
/-- what a walk over the start with the record d0 says of its end, said of the start itself -/
theorem lw_closed {s t : State} {o : Outcome} {d0 : Drawn} {L : List Loc} {k n : Nat} (hd0 : s.drawn.sameBut d0 lw_cs) (hv : ∃ v, o = .returned v) (hW : (s.setDrawn d0).WarmedH t.vm) (hs : (s.setDrawn d0).sameButNew ({ t with vm := s.vm } : State) L k n) : State.butDraws s t lw_cs (fun t1 => Framed s o t1 L k n) := by
  have h2 : t.drawn = d0 := congrArg State.drawn hs.1
  refine ⟨⟨hv, hW, State.sameButNew.setDrawn hs s.drawn⟩, ?_, by decide⟩
  rw [h2]
  exact hd0
def lw_Q (_ : Array Value) (s : State) (o : Outcome) (t : State) : Prop := o = .returned (some (.int 1)) ∧ State.butDraws s t lw_cs (fun t1 => Framed s o t1 [] 635979 7188166)
def lw_Z (below : List Frame) (a : Array Value) (s : State) : State → Prop := fun t => ∃ o, t.status = .running ∧ Ended t below o ∧ lw_Q a s o t
/-- the law's own end, with 1 on the stack, nothing written that was there before, its room as the claim has it; d0: the record of draws at this point (at the entry s.drawn: begin with 'refine W.base ?_' and 'have hd0 := Drawn.sameBut.refl s.drawn lw_cs') -/
theorem lw_ret {p : Program} {l : Launch} {e : Env} {s : State} {m : MethodId} {below : List Frame} {meth : Method} {c : Code} {b : Nat} {d0 : Drawn} (hd0 : s.drawn.sameBut d0 lw_cs) (hx : p.tables.exec = Jvm.exec) (hb : c.code = code) (hr : meth.sig.returnType = ret) (hlocks : meth.locks = false) {pc : Nat} {H : Heap} {ls : Array Slot} (hdg : decode code pc = .ok (.ireturn, 1)) : W p l e room_1 (s.setDrawn d0) m #[Value.ref b] below meth c H [] 635979 7188166 (lw_Z below #[Value.ref b] s) (F0 m pc ls [.int 1]) := by
  intro T hT X
  obtain ⟨fs, hret, hrun, hended, hW, hframe⟩ := X.leave (v := some (.int 1)) (hlocks := hlocks) (fun h => by rw [hr] at h; cases h)
  have hmeth' : T.vm.method? m = some meth := X.method'
  refine ⟨T.setFrames fs, ?_, .returned (some (.int 1)), hrun, hended, rfl, lw_closed hd0 ⟨_, rfl⟩ hW hframe⟩
  jvm_step X.here [X.here.top, hx, hb, hdg, hmeth', hr, ret, narrow_b1]
  (try refine ⟨rfl, ?_⟩); (try refine ⟨rfl, ?_⟩)
  first | (intro acts; rw [hret _ acts rfl rfl rfl]) | rw [hret _ _ rfl rfl rfl]
  exact Steps.refl _
/-- what holds at the law's entry: the machine, the code, the tables' words (any of lw_tbl by 'hts w (by decide +kernel)'), the script of L ints xs at the cell b, what the Statement gives of the start (any of its parts by flat_of_before) -/
def lw_At (p : Program) (s : State) (m : MethodId) (meth : Method) (c : Code) (b L : Nat) (xs : Nat → Int32) : Prop :=
  p.tables.exec = Jvm.exec ∧ c.code = code ∧ meth.sig.returnType = ret ∧ c.maxLocals = 9 ∧ s.vm.findClass R_law = some m.cls ∧ (∀ w ∈ lw_tbl, w.before #[Value.ref b] s = true) ∧ va_X b L xs s s.heap ∧ b < s.heap.size ∧ meth.locks = false ∧ (Jvm.Cond.and given_1 narrow_1).before #[Value.ref b] s = true
theorem q803 : (Jvm.Cond.instantiable "java/lang/String" (4 : Nat)) ∈ lw_all := mt5 61 (by decide +kernel) (by decide +kernel)
theorem q804 : (Jvm.Cond.instantiable "java/lang/ArrayIndexOutOfBoundsException" (6 : Nat)) ∈ lw_all := mt5 136 (by decide +kernel) (by decide +kernel)
theorem q805 : (Jvm.Cond.instantiable "java/lang/StringIndexOutOfBoundsException" (6 : Nat)) ∈ lw_all := mt5 47 (by decide +kernel) (by decide +kernel)
theorem q806 : (Jvm.Cond.instantiable "PactClocks" (5 : Nat)) ∈ lw_all := mt1 25 (by decide +kernel) (by decide +kernel)
theorem q807 : (Jvm.Cond.instantiable "PactClocksModel" (13 : Nat)) ∈ lw_all := mt4 48 (by decide +kernel) (by decide +kernel)
theorem q808 : (Jvm.Cond.arrayClass Jvm.ClassFile.FieldType.long) ∈ lw_all := mt6 5 (by decide +kernel) (by decide +kernel)
theorem q809 : (Jvm.Cond.classLink "PactClocksLaw" (8 : Nat) "PactClocks") ∈ lw_all := mt1 24 (by decide +kernel) (by decide +kernel)
theorem q810 : (Jvm.Cond.methodLink "PactClocksLaw" (84 : Nat) ({ cls := "PactClocks", name := "<init>", desc := "()V" } : Jvm.MethodName)) ∈ lw_all := mt1 26 (by decide +kernel) (by decide +kernel)
theorem q811 : (Jvm.Cond.code ({ cls := "PactClocks", name := "<init>", desc := "()V" } : Jvm.MethodName) prog_1_method_1_code (2 : Nat) (Option.none : Option Jvm.ClassFile.FieldType)) ∈ lw_all := mt1 28 (by decide +kernel) (by decide +kernel)
theorem q812 : (Jvm.Cond.instanceMethod ({ cls := "PactClocks", name := "<init>", desc := "()V" } : Jvm.MethodName)) ∈ lw_all := mt1 27 (by decide +kernel) (by decide +kernel)
theorem q813 : (Jvm.Cond.classLink "PactClocksLaw" (85 : Nat) "PactClocksModel") ∈ lw_all := mt4 47 (by decide +kernel) (by decide +kernel)
theorem q814 : (Jvm.Cond.methodLink "PactClocksLaw" (87 : Nat) ({ cls := "PactClocksModel", name := "<init>", desc := "()V" } : Jvm.MethodName)) ∈ lw_all := mt4 49 (by decide +kernel) (by decide +kernel)
theorem q815 : (Jvm.Cond.code ({ cls := "PactClocksModel", name := "<init>", desc := "()V" } : Jvm.MethodName) prog_5_method_1_code (1 : Nat) (Option.none : Option Jvm.ClassFile.FieldType)) ∈ lw_all := mt4 51 (by decide +kernel) (by decide +kernel)
theorem q816 : (Jvm.Cond.instanceMethod ({ cls := "PactClocksModel", name := "<init>", desc := "()V" } : Jvm.MethodName)) ∈ lw_all := mt4 50 (by decide +kernel) (by decide +kernel)
theorem v_X2_init : zI yX2_init cX2_init 2 0 := ⟨q812, rfl, q202, q811, by decide +kernel, by decide +kernel, by decide +kernel⟩
theorem v_X3_init : zI yX3_init cX3_init 1 0 := ⟨q816, rfl, q63, q815, by decide +kernel, by decide +kernel, by decide +kernel⟩
theorem z_and31 (z : Int32) : ∃ j : Nat, j < 32 ∧ z &&& 31 = nI j := by
  refine ⟨(z &&& 31).toBitVec.toNat, ?_, ?_⟩
  · rw [Int32.toBitVec_and, BitVec.toNat_and]
    exact Nat.lt_of_le_of_lt Nat.and_le_right (by decide)
  · apply Int32.toBitVec_inj.mp
    show (z &&& 31).toBitVec = BitVec.ofNat 32 (z &&& 31).toBitVec.toNat
    rw [BitVec.ofNat_toNat, BitVec.setWidth_eq]
def wpL_op (K : Int32 → DS → MS → SS → (Nat → Int64) → Prop) (L : Nat) (xs : Nat → Int32) (j : Nat) (i : Int32) (d : DS) (mo : MS) (x : SS) (w : Nat → Int64) : Prop := match j with
  | 0 => wpLc_172 K L xs i d mo x w
  | 1 => wpLc_228 K L xs i d mo x w
  | 2 => wpLc_360 K L xs i d mo x w
  | 3 => wpLc_416 K L xs i d mo x w
  | 4 => wpLc_472 K L xs i d mo x w
  | 5 => wpLc_540 K L xs i d mo x w
  | 6 => wpLc_608 K L xs i d mo x w
  | 7 => wpLc_664 K L xs i d mo x w
  | 8 => wpLc_677 K L xs i d mo x w
  | 9 => wpLc_690 K L xs i d mo x w
  | 10 => wpLc_703 K L xs i d mo x w
  | 11 => wpLc_759 K L xs i d mo x w
  | 12 => wpLc_815 K L xs i d mo x w
  | 13 => wpLc_828 K L xs i d mo x w
  | 14 => wpLc_884 K L xs i d mo x w
  | 15 => wpLc_940 K L xs i d mo x w
  | 16 => wpLc_996 K L xs i d mo x w
  | 17 => wpLc_1052 K L xs i d mo x w
  | 18 => wpLc_1108 K L xs i d mo x w
  | 19 => wpLc_1164 K L xs i d mo x w
  | 20 => wpLc_1220 K L xs i d mo x w
  | 21 => wpLc_1276 K L xs i d mo x w
  | 22 => wpLc_1332 K L xs i d mo x w
  | 23 => wpLc_1400 K L xs i d mo x w
  | 24 => wpLc_1413 K L xs i d mo x w
  | 25 => wpLc_1469 K L xs i d mo x w
  | 26 => wpLc_1537 K L xs i d mo x w
  | 27 => wpLc_1593 K L xs i d mo x w
  | 28 => wpLc_1634 K L xs i d mo x w
  | _ => K (i + 8) d mo x w
def wpL_step (K : Int32 → DS → MS → SS → (Nat → Int64) → Prop) (L : Nat) (xs : Nat → Int32) (i : Int32) (d : DS) (mo : MS) (x : SS) (w : Nat → Int64) : Prop :=
  ¬ Int32.ofNat L - 8 < i → vp_in i L ∧ ∀ j : Nat, j < 32 → xs i.toNatClampNeg &&& 31 = nI j → wpL_op K L xs j i d mo x w
def wpL_loop (L : Nat) (xs : Nat → Int32) : Nat → Int32 → DS → MS → SS → (Nat → Int64) → Prop
  | 0, _, _, _, _, _ => False
  | n + 1, i, d, mo, x, w => wpL_step (fun i d mo x w => wpL_loop L xs n i d mo x w) L xs i d mo x w
set_option maxHeartbeats 40000000 in
set_option maxRecDepth 100000 in
theorem law_loop {p : Program} {l : Launch} {e : Env} {s : State} {m : MethodId} {below : List Frame} {meth : Method} {c : Code} {b L : Nat} {xs : Nat → Int32} {D : va_G} {cI cB cJ : ClassId} {dA bA aA tA mA oA : Nat → Nat} (hfl : l.stackTraces = false) (hs0 : zS s) (C : zC D (zty cI cB cJ) p s m #[Value.ref b] meth c cL_law RL ret 9) (hA : ∀ q : Nat, s.heap.size ≤ q → (fun q : Nat => s.heap.size ≤ q) q) (hG : zG s (fun q : Nat => s.heap.size ≤ q) s s.heap) (hX : va_X b L xs s s.heap) (hbl : b < s.heap.size) :
    ∀ (n : Nat) (hn : n ≤ 513) (i : Int32) (d : DS) (mo : MS) (x : SS) (w : Nat → Int64) (H : Heap) (locs : List Loc), va_P D vwCl (wD cI dA bA aA tA d ++ wM cI mA mo ++ wS cB (fun _ : Nat => mA 10) x ++ [((oA 0), .inl (cJ, 1, .inr (.inl w)))]) H → va_D (fun q : Nat => s.heap.size ≤ q) (wD cI dA bA aA tA d ++ wM cI mA mo ++ wS cB (fun _ : Nat => mA 10) x ++ [((oA 0), .inl (cJ, 1, .inr (.inl w)))]) → va_S (fun q : Nat => s.heap.size ≤ q) s.heap H locs → ∀ ls : Array Slot, lv_has ls 9 [(0, .ref b), (1, .ref (dA 0)), (2, .ref (mA 0)), (3, .ref (oA 0)), (4, .int i)] → wpL_loop L xs n i d mo x w → W p l e room_1 s m #[Value.ref b] below meth c H locs (35 + 210 * (513 - n)) (670 + 6594 * (513 - n)) (lw_Z below #[Value.ref b] s) (F0 m 23 ls []) := by
  have hx := C.1
  have hb := C.2.1
  have hbA : ¬ (fun q : Nat => s.heap.size ≤ q) b := Nat.not_le.mpr hbl
  intro n
  induction n with
  | zero =>
    intro hn i d mo x w H locs hP hD hS ls hl h
    exact h.elim
  | succ n ih =>
    intro hn i d mo x w H locs hP hD hS ls hl h
    have h : wpL_step (fun i d mo x w => wpL_loop L xs n i d mo x w) L xs i d mo x w := h
    unfold wpL_step at h
    have hk : ∀ (i : Int32) (d : DS) (mo : MS) (x : SS) (w : Nat → Int64) (H : Heap) (locs : List Loc), va_P D vwCl (wD cI dA bA aA tA d ++ wM cI mA mo ++ wS cB (fun _ : Nat => mA 10) x ++ [((oA 0), .inl (cJ, 1, .inr (.inl w)))]) H → va_D (fun q : Nat => s.heap.size ≤ q) (wD cI dA bA aA tA d ++ wM cI mA mo ++ wS cB (fun _ : Nat => mA 10) x ++ [((oA 0), .inl (cJ, 1, .inr (.inl w)))]) → va_S (fun q : Nat => s.heap.size ≤ q) s.heap H locs → ∀ ls : Array Slot, lv_has ls 9 [(0, .ref b), (1, .ref (dA 0)), (2, .ref (mA 0)), (3, .ref (oA 0)), (4, .int i)] → wpL_loop L xs n i d mo x w → W p l e room_1 s m #[Value.ref b] below meth c H locs (35 + 210 * (513 - (n + 1)) + 210) (670 + 6594 * (513 - (n + 1)) + 6594) (lw_Z below #[Value.ref b] s) (F0 m 23 ls []) := by
      intro i d mo x w H locs hP hD hS ls hl h
      refine W.widen (k := 35 + 210 * (513 - n)) (n := 670 + 6594 * (513 - n)) (by omega) (by omega) ?_
      exact ih (by omega) i d mo x w H locs hP hD hS ls hl h
    refine lv_iload hx hb dL_law_23 (lv_at hl 4 rfl) ?_
    refine lv_aload_n hx hb dL_law_25 rfl (lv_at hl 0 rfl) ?_
    refine va_slen hx hb hX hbl hbA hS dL_law_26 ?_
    refine lv_bipush (v := 8) hx hb dL_law_27 (by decide) ?_
    refine lv_isub hx hb dL_law_29 ?_
    refine lv_icmp_gt (tgt := 1654) hx hb dL_law_30 (by decide) (fun c30 => ?_) (fun c30 => ?_)
    · refine lv_iconst (v := 1) hx hb dL_law_1654 (by decide) ?_
      refine va_forget (fun q hq => hS.2.2 q hq) ?_
      refine W.widen (k := 635979) (n := 7188166) (by omega) (by omega) ?_
      exact lw_ret (d0 := s.drawn) (Drawn.sameBut.refl s.drawn lw_cs) hx hb C.2.2.2.2.1 C.2.2.2.2.2.2.1 dL_law_1655
    · obtain ⟨g9, h⟩ := h c30
      refine lv_aload_n hx hb dL_law_33 rfl (lv_at hl 0 rfl) ?_
      refine lv_iload hx hb dL_law_34 (lv_at hl 4 rfl) ?_
      refine va_sld hx hb hX hbl hbA hS g9 dL_law_36 ?_
      refine lv_bipush (v := 31) hx hb dL_law_37 (by decide) ?_
      refine lv_iand hx hb dL_law_39 ?_
      obtain ⟨j, hj, ej⟩ := z_and31 (xs i.toNatClampNeg)
      have h := h j hj ej
      rw [ej]
      match j, hj, h with
      | 0, _, h =>
        refine lv_tableIn (x := nI 0) (off := 132) (tgt := 172) hx hb dL_law_40 (by decide) (by decide) (by decide) (by decide) ?_
        exact lc_172 hfl hs0 C hA hG hX hbl (by omega) hk i d mo x w H locs hP hD hS ls hl h
      | 1, _, h =>
        refine lv_tableIn (x := nI 1) (off := 188) (tgt := 228) hx hb dL_law_40 (by decide) (by decide) (by decide) (by decide) ?_
        exact lc_228 hfl hs0 C hA hG hX hbl (by omega) hk i d mo x w H locs hP hD hS ls hl h
      | 2, _, h =>
        refine lv_tableIn (x := nI 2) (off := 320) (tgt := 360) hx hb dL_law_40 (by decide) (by decide) (by decide) (by decide) ?_
        exact lc_360 hfl hs0 C hA hG hX hbl (by omega) hk i d mo x w H locs hP hD hS ls hl h
      | 3, _, h =>
        refine lv_tableIn (x := nI 3) (off := 376) (tgt := 416) hx hb dL_law_40 (by decide) (by decide) (by decide) (by decide) ?_
        exact lc_416 hfl hs0 C hA hG hX hbl (by omega) hk i d mo x w H locs hP hD hS ls hl h
      | 4, _, h =>
        refine lv_tableIn (x := nI 4) (off := 432) (tgt := 472) hx hb dL_law_40 (by decide) (by decide) (by decide) (by decide) ?_
        exact lc_472 hfl hs0 C hA hG hX hbl (by omega) hk i d mo x w H locs hP hD hS ls hl h
      | 5, _, h =>
        refine lv_tableIn (x := nI 5) (off := 500) (tgt := 540) hx hb dL_law_40 (by decide) (by decide) (by decide) (by decide) ?_
        exact lc_540 hfl hs0 C hA hG hX hbl (by omega) hk i d mo x w H locs hP hD hS ls hl h
      | 6, _, h =>
        refine lv_tableIn (x := nI 6) (off := 568) (tgt := 608) hx hb dL_law_40 (by decide) (by decide) (by decide) (by decide) ?_
        exact lc_608 hfl hs0 C hA hG hX hbl (by omega) hk i d mo x w H locs hP hD hS ls hl h
      | 7, _, h =>
        refine lv_tableIn (x := nI 7) (off := 624) (tgt := 664) hx hb dL_law_40 (by decide) (by decide) (by decide) (by decide) ?_
        exact lc_664 hfl hs0 C hA hG hX hbl (by omega) hk i d mo x w H locs hP hD hS ls hl h
      | 8, _, h =>
        refine lv_tableIn (x := nI 8) (off := 637) (tgt := 677) hx hb dL_law_40 (by decide) (by decide) (by decide) (by decide) ?_
        exact lc_677 hfl hs0 C hA hG hX hbl (by omega) hk i d mo x w H locs hP hD hS ls hl h
      | 9, _, h =>
        refine lv_tableIn (x := nI 9) (off := 650) (tgt := 690) hx hb dL_law_40 (by decide) (by decide) (by decide) (by decide) ?_
        exact lc_690 hfl hs0 C hA hG hX hbl (by omega) hk i d mo x w H locs hP hD hS ls hl h
      | 10, _, h =>
        refine lv_tableIn (x := nI 10) (off := 663) (tgt := 703) hx hb dL_law_40 (by decide) (by decide) (by decide) (by decide) ?_
        exact lc_703 hfl hs0 C hA hG hX hbl (by omega) hk i d mo x w H locs hP hD hS ls hl h
      | 11, _, h =>
        refine lv_tableIn (x := nI 11) (off := 719) (tgt := 759) hx hb dL_law_40 (by decide) (by decide) (by decide) (by decide) ?_
        exact lc_759 hfl hs0 C hA hG hX hbl (by omega) hk i d mo x w H locs hP hD hS ls hl h
      | 12, _, h =>
        refine lv_tableIn (x := nI 12) (off := 775) (tgt := 815) hx hb dL_law_40 (by decide) (by decide) (by decide) (by decide) ?_
        exact lc_815 hfl hs0 C hA hG hX hbl (by omega) hk i d mo x w H locs hP hD hS ls hl h
      | 13, _, h =>
        refine lv_tableIn (x := nI 13) (off := 788) (tgt := 828) hx hb dL_law_40 (by decide) (by decide) (by decide) (by decide) ?_
        exact lc_828 hfl hs0 C hA hG hX hbl (by omega) hk i d mo x w H locs hP hD hS ls hl h
      | 14, _, h =>
        refine lv_tableIn (x := nI 14) (off := 844) (tgt := 884) hx hb dL_law_40 (by decide) (by decide) (by decide) (by decide) ?_
        exact lc_884 hfl hs0 C hA hG hX hbl (by omega) hk i d mo x w H locs hP hD hS ls hl h
      | 15, _, h =>
        refine lv_tableIn (x := nI 15) (off := 900) (tgt := 940) hx hb dL_law_40 (by decide) (by decide) (by decide) (by decide) ?_
        exact lc_940 hfl hs0 C hA hG hX hbl (by omega) hk i d mo x w H locs hP hD hS ls hl h
      | 16, _, h =>
        refine lv_tableIn (x := nI 16) (off := 956) (tgt := 996) hx hb dL_law_40 (by decide) (by decide) (by decide) (by decide) ?_
        exact lc_996 hfl hs0 C hA hG hX hbl (by omega) hk i d mo x w H locs hP hD hS ls hl h
      | 17, _, h =>
        refine lv_tableIn (x := nI 17) (off := 1012) (tgt := 1052) hx hb dL_law_40 (by decide) (by decide) (by decide) (by decide) ?_
        exact lc_1052 hfl hs0 C hA hG hX hbl (by omega) hk i d mo x w H locs hP hD hS ls hl h
      | 18, _, h =>
        refine lv_tableIn (x := nI 18) (off := 1068) (tgt := 1108) hx hb dL_law_40 (by decide) (by decide) (by decide) (by decide) ?_
        exact lc_1108 hfl hs0 C hA hG hX hbl (by omega) hk i d mo x w H locs hP hD hS ls hl h
      | 19, _, h =>
        refine lv_tableIn (x := nI 19) (off := 1124) (tgt := 1164) hx hb dL_law_40 (by decide) (by decide) (by decide) (by decide) ?_
        exact lc_1164 hfl hs0 C hA hG hX hbl (by omega) hk i d mo x w H locs hP hD hS ls hl h
      | 20, _, h =>
        refine lv_tableIn (x := nI 20) (off := 1180) (tgt := 1220) hx hb dL_law_40 (by decide) (by decide) (by decide) (by decide) ?_
        exact lc_1220 hfl hs0 C hA hG hX hbl (by omega) hk i d mo x w H locs hP hD hS ls hl h
      | 21, _, h =>
        refine lv_tableIn (x := nI 21) (off := 1236) (tgt := 1276) hx hb dL_law_40 (by decide) (by decide) (by decide) (by decide) ?_
        exact lc_1276 hfl hs0 C hA hG hX hbl (by omega) hk i d mo x w H locs hP hD hS ls hl h
      | 22, _, h =>
        refine lv_tableIn (x := nI 22) (off := 1292) (tgt := 1332) hx hb dL_law_40 (by decide) (by decide) (by decide) (by decide) ?_
        exact lc_1332 hfl hs0 C hA hG hX hbl (by omega) hk i d mo x w H locs hP hD hS ls hl h
      | 23, _, h =>
        refine lv_tableIn (x := nI 23) (off := 1360) (tgt := 1400) hx hb dL_law_40 (by decide) (by decide) (by decide) (by decide) ?_
        exact lc_1400 hfl hs0 C hA hG hX hbl (by omega) hk i d mo x w H locs hP hD hS ls hl h
      | 24, _, h =>
        refine lv_tableIn (x := nI 24) (off := 1373) (tgt := 1413) hx hb dL_law_40 (by decide) (by decide) (by decide) (by decide) ?_
        exact lc_1413 hfl hs0 C hA hG hX hbl (by omega) hk i d mo x w H locs hP hD hS ls hl h
      | 25, _, h =>
        refine lv_tableIn (x := nI 25) (off := 1429) (tgt := 1469) hx hb dL_law_40 (by decide) (by decide) (by decide) (by decide) ?_
        exact lc_1469 hfl hs0 C hA hG hX hbl (by omega) hk i d mo x w H locs hP hD hS ls hl h
      | 26, _, h =>
        refine lv_tableIn (x := nI 26) (off := 1497) (tgt := 1537) hx hb dL_law_40 (by decide) (by decide) (by decide) (by decide) ?_
        exact lc_1537 hfl hs0 C hA hG hX hbl (by omega) hk i d mo x w H locs hP hD hS ls hl h
      | 27, _, h =>
        refine lv_tableIn (x := nI 27) (off := 1553) (tgt := 1593) hx hb dL_law_40 (by decide) (by decide) (by decide) (by decide) ?_
        exact lc_1593 hfl hs0 C hA hG hX hbl (by omega) hk i d mo x w H locs hP hD hS ls hl h
      | 28, _, h =>
        refine lv_tableIn (x := nI 28) (off := 1594) (tgt := 1634) hx hb dL_law_40 (by decide) (by decide) (by decide) (by decide) ?_
        exact lc_1634 hfl hs0 C hA hG hX hbl (by omega) hk i d mo x w H locs hP hD hS ls hl h
      | 29, _, h =>
        refine lv_tableOut (x := nI 29) (tgt := 1648) hx hb dL_law_40 (by decide) (by decide) ?_
        refine lv_iinc (v := (i + 8)) (lv' := [(4, .int (i + 8)), (0, .ref b), (1, .ref (dA 0)), (2, .ref (mA 0)), (3, .ref (oA 0))]) hx hb dL_law_1648 hl (k := 4) rfl (by first | rfl | decide) (by decide) rfl (fun ls hl => ?_)
        refine lv_goto (tgt := 23) hx hb dL_law_1651 (by decide) ?_
        refine W.widen (k := 35 + 210 * (513 - (n + 1)) + 210) (n := 670 + 6594 * (513 - (n + 1)) + 6594) (by omega) (by omega) ?_
        exact hk _ _ _ _ _ _ _ hP hD hS _ (lv_sub hl [1, 2, 3, 4, 0] rfl) h
      | 30, _, h =>
        refine lv_tableOut (x := nI 30) (tgt := 1648) hx hb dL_law_40 (by decide) (by decide) ?_
        refine lv_iinc (v := (i + 8)) (lv' := [(4, .int (i + 8)), (0, .ref b), (1, .ref (dA 0)), (2, .ref (mA 0)), (3, .ref (oA 0))]) hx hb dL_law_1648 hl (k := 4) rfl (by first | rfl | decide) (by decide) rfl (fun ls hl => ?_)
        refine lv_goto (tgt := 23) hx hb dL_law_1651 (by decide) ?_
        refine W.widen (k := 35 + 210 * (513 - (n + 1)) + 210) (n := 670 + 6594 * (513 - (n + 1)) + 6594) (by omega) (by omega) ?_
        exact hk _ _ _ _ _ _ _ hP hD hS _ (lv_sub hl [1, 2, 3, 4, 0] rfl) h
      | 31, _, h =>
        refine lv_tableOut (x := nI 31) (tgt := 1648) hx hb dL_law_40 (by decide) (by decide) ?_
        refine lv_iinc (v := (i + 8)) (lv' := [(4, .int (i + 8)), (0, .ref b), (1, .ref (dA 0)), (2, .ref (mA 0)), (3, .ref (oA 0))]) hx hb dL_law_1648 hl (k := 4) rfl (by first | rfl | decide) (by decide) rfl (fun ls hl => ?_)
        refine lv_goto (tgt := 23) hx hb dL_law_1651 (by decide) ?_
        refine W.widen (k := 35 + 210 * (513 - (n + 1)) + 210) (n := 670 + 6594 * (513 - (n + 1)) + 6594) (by omega) (by omega) ?_
        exact hk _ _ _ _ _ _ _ hP hD hS _ (lv_sub hl [1, 2, 3, 4, 0] rfl) h
      | k + 32, hj, _ => exact absurd hj (by omega)
theorem in_J0 : ∀ w ∈ u_ws RJ0 TJ0 4, w ∈ lw_all := by decide +kernel
theorem in_Jx00060 : ∀ w ∈ u_ws RJx00060 TJx00060 6, w ∈ lw_all := by decide +kernel
theorem in_Jx7c733 : ∀ w ∈ u_ws RJx7c733 TJx7c733 6, w ∈ lw_all := by decide +kernel
theorem z_arr {s : State} {args : Array Value} {ty : FieldType} (h : (Cond.arrayClass ty).before args s = true) (hty : ∀ cA, s.vm.findClass ("[" ++ ty.toString) = some cA → va_RA s cA ty) : ∃ cA : ClassId, ArrOfT s cA ty ∧ va_RA s cA ty := by
  obtain ⟨cA, kA, comp, h1, h2, h3⟩ := Cond.arrayClass_spec h
  exact ⟨cA, fun n z => ⟨fun k h => (by cases h), kA, h2, comp, h3⟩, hty cA h1⟩
theorem z_allw {s : State} {b : Nat} (hts : ∀ w ∈ lw_tbl, w.before #[Value.ref b] s = true) : ∀ w ∈ lw_all, w.before #[Value.ref b] s = true := by
  intro w hw
  rcases lw_all_tbl hw with h | h
  · have hy : ∀ {n d : String}, Cond.instantiable "java/lang/StringBuilder" 4 ∈ lw_tbl → Cond.privateMethod ⟨"java/lang/AbstractStringBuilder", n, d⟩ ∈ lw_tbl → Cond.instanceMethod ⟨"java/lang/AbstractStringBuilder", n, d⟩ ∈ lw_tbl → Cond.selects "java/lang/StringBuilder" ⟨"java/lang/AbstractStringBuilder", "isLatin1", "()Z"⟩ ⟨"java/lang/AbstractStringBuilder", "isLatin1", "()Z"⟩ ∈ lw_tbl → (Cond.selects "java/lang/StringBuilder" ⟨"java/lang/AbstractStringBuilder", n, d⟩ ⟨"java/lang/AbstractStringBuilder", n, d⟩).before #[Value.ref b] s = true := fun h1 h2 h3 h4 => z_selp (z := ⟨"java/lang/AbstractStringBuilder", "isLatin1", "()Z"⟩) ⟨by simp, by simp⟩ (hts _ h1) (hts _ h2) (hts _ h3) rfl (hts _ h4)
    rcases List.mem_cons.mp h with rfl | h
    · exact hy (List.mem_append_right _ (List.mem_append_right _ (List.mem_append_left _ (List.mem_of_getElem? (i := 201) (by decide +kernel))))) (List.mem_append_right _ (List.mem_append_right _ (List.mem_append_right _ (List.mem_append_left _ (List.mem_of_getElem? (i := 7) (by decide +kernel)))))) (List.mem_append_right _ (List.mem_append_right _ (List.mem_append_right _ (List.mem_append_left _ (List.mem_of_getElem? (i := 8) (by decide +kernel)))))) (List.mem_append_right _ (List.mem_append_right _ (List.mem_append_right _ (List.mem_append_left _ (List.mem_of_getElem? (i := 36) (by decide +kernel))))))
    rcases List.mem_cons.mp h with rfl | h
    · exact hy (List.mem_append_right _ (List.mem_append_right _ (List.mem_append_left _ (List.mem_of_getElem? (i := 201) (by decide +kernel))))) (List.mem_append_right _ (List.mem_append_right _ (List.mem_append_right _ (List.mem_append_left _ (List.mem_of_getElem? (i := 3) (by decide +kernel)))))) (List.mem_append_right _ (List.mem_append_right _ (List.mem_append_right _ (List.mem_append_left _ (List.mem_of_getElem? (i := 4) (by decide +kernel)))))) (List.mem_append_right _ (List.mem_append_right _ (List.mem_append_right _ (List.mem_append_left _ (List.mem_of_getElem? (i := 36) (by decide +kernel))))))
    rcases List.mem_cons.mp h with rfl | h
    · exact hy (List.mem_append_right _ (List.mem_append_right _ (List.mem_append_left _ (List.mem_of_getElem? (i := 201) (by decide +kernel))))) (List.mem_append_right _ (List.mem_append_right _ (List.mem_append_right _ (List.mem_append_left _ (List.mem_of_getElem? (i := 101) (by decide +kernel)))))) (List.mem_append_right _ (List.mem_append_right _ (List.mem_append_right _ (List.mem_append_left _ (List.mem_of_getElem? (i := 102) (by decide +kernel)))))) (List.mem_append_right _ (List.mem_append_right _ (List.mem_append_right _ (List.mem_append_left _ (List.mem_of_getElem? (i := 36) (by decide +kernel))))))
    rcases List.mem_cons.mp h with rfl | h
    · exact hy (List.mem_append_right _ (List.mem_append_right _ (List.mem_append_left _ (List.mem_of_getElem? (i := 201) (by decide +kernel))))) (List.mem_append_right _ (List.mem_append_right _ (List.mem_append_right _ (List.mem_append_left _ (List.mem_of_getElem? (i := 105) (by decide +kernel)))))) (List.mem_append_right _ (List.mem_append_right _ (List.mem_append_right _ (List.mem_append_left _ (List.mem_of_getElem? (i := 106) (by decide +kernel)))))) (List.mem_append_right _ (List.mem_append_right _ (List.mem_append_right _ (List.mem_append_left _ (List.mem_of_getElem? (i := 36) (by decide +kernel))))))
    exact absurd h List.not_mem_nil
  · exact hts _ h
set_option maxHeartbeats 40000000 in
set_option maxRecDepth 100000 in
theorem whole_walk {p : Program} {e : Env} {s : State} {m : MethodId} {below : List Frame} {meth : Method} {c : Code} (l : Launch) (hflags : l.flags = flags0) {b L : Nat} {xs : Nat → Int32} (C0 : lw_At p s m meth c b L xs) (hmath : ∀ q : Nat, wpL_loop L xs 513 0 ds0 ms0 (ss0 q) (fun _ => 0)) : W p l e room_1 s m #[Value.ref b] below meth c s.heap [] 0 0 (lw_Z below #[Value.ref b] s) (entryFrame m ([Value.ref b] : List Value).toArray 9) := by
  obtain ⟨hx, hb, hr, hml, hown, hts0, hX, hbl, hlocks, hgv⟩ := C0
  have hs0 : zS s := ⟨_, hts0, hgv⟩
  have hts := z_allw hts0
  have hfl : l.stackTraces = false := by
    unfold Launch.stackTraces
    rw [hflags]
    decide +kernel
  have hA : ∀ q : Nat, s.heap.size ≤ q → (fun q : Nat => s.heap.size ≤ q) q := fun _ h => h
  obtain ⟨c0, iS0, hKn0⟩ := u_known (C := RJ0) (T := TJ0) (N := 4) (n := 4) hts in_J0 (hts _ q803)
  obtain ⟨c1, iS1, hKn1⟩ := u_known (C := RJ4) (T := TJ4) (N := 4) (n := 4) hts in_J4 (hts _ q486)
  obtain ⟨c2, iS2, hKn2⟩ := u_known (C := RJx00060) (T := TJx00060) (N := 6) (n := 6) hts in_Jx00060 (hts _ q804)
  obtain ⟨c3, iS3, hKn3⟩ := u_known (C := RJx7c733) (T := TJx7c733) (N := 6) (n := 6) hts in_Jx7c733 (hts _ q805)
  obtain ⟨c4, iS4, hKn4⟩ := u_known (C := RX0) (T := TX0) (N := 6) (n := 6) hts in_X0 (hts _ q480)
  obtain ⟨c5, iS5, hKn5⟩ := u_known (C := RX1) (T := TX1) (N := 11) (n := 11) hts in_X1 (hts _ q476)
  obtain ⟨c6, iS6, hKn6⟩ := u_known (C := RX2) (T := TX2) (N := 5) (n := 5) hts in_X2 (hts _ q806)
  obtain ⟨c7, iS7, hKn7⟩ := u_known (C := RX3) (T := TX3) (N := 13) (n := 13) hts in_X3 (hts _ q807)
  obtain ⟨cI, hRI⟩ := z_arr (hts _ q464) (fun cA h => h)
  obtain ⟨cB, hRB⟩ := z_arr (hts _ q357) (fun cA h => h)
  obtain ⟨cJ, hRJ⟩ := z_arr (hts _ q808) (fun cA h => h)
  obtain ⟨D, hKc⟩ : ∃ D : va_G, ∀ (k : Nat) (q : vw_C), vwCl[k]? = some q → u_Kn s q.1 q.2.1 q.2.2 (D.1 k) (D.2 k) := by
    refine ⟨(fun k => [c0, c1, c2, c3, c4, c5, c6, c7].getD k c0, fun k => [iS0, iS1, iS2, iS3, iS4, iS5, iS6, iS7].getD k iS0), ?_⟩
    intro k q hq
    match k, hq with
    | 0, hq => cases hq; exact hKn0
    | 1, hq => cases hq; exact hKn1
    | 2, hq => cases hq; exact hKn2
    | 3, hq => cases hq; exact hKn3
    | 4, hq => cases hq; exact hKn4
    | 5, hq => cases hq; exact hKn5
    | 6, hq => cases hq; exact hKn6
    | 7, hq => cases hq; exact hKn7
    | k + 8, hq => simp [vwCl] at hq
  have hK : va_K D vwCl (zty cI cB cJ) s := by
    refine ⟨hKc, fun k q h => ?_⟩
    match k, h with
    | 0, h => cases h; exact hRI
    | 1, h => cases h; exact hRB
    | 2, h => cases h; exact hRJ
    | k + 3, h => simp [zty] at h
  have C : zC D (zty cI cB cJ) p s m #[Value.ref b] meth c cL_law RL ret 9 := ⟨hx, hb, hts, hown, hr, hml, hlocks, hK⟩
  have hG : zG s (fun q : Nat => s.heap.size ≤ q) s s.heap := ⟨State.WarmedH.refl _, fun _ h => h, Nat.le_refl _, fun _ _ => rfl⟩
  have hS : va_S (fun q : Nat => s.heap.size ≤ q) s.heap s.heap [] := va_S.rf
  have hP : va_P D vwCl ([] : va_W) s.heap := fun k q h => by simp at h
  have hD : va_D (fun q : Nat => s.heap.size ≤ q) ([] : va_W) := ⟨fun i j p q h => by simp at h, fun k q h => by simp at h⟩
  have hl := lv_entry ([.ref b]) (n := 9) (Nat.le_of_ble_eq_true rfl)
  rw [lg_entry_eq]
  generalize (lg_sl ([.ref b]) ++ List.replicate (9 - (lg_sl ([.ref b])).length) Slot.unset).toArray = ls at hl ⊢
  have hl : lv_has ls 9 [(0, .ref b)] := hl
  refine va_new (ci := 6) (fs := [.null, .null, .null, .int 0, .int 0]) (C := RX2) (T := TX2) (N := 5) hx hb hts in_X2 tyX2 tyX2_ok hown (hts _ q809) (hts _ q806) (hts _ q202) hK hP hD hS hA rfl (fun j hj => by rcases (show j = 0 ∨ j = 1 ∨ j = 2 ∨ j = 3 ∨ j = 4 by omega) with rfl | rfl | rfl | rfl | rfl <;> rfl) (Nat.le_of_ble_eq_true rfl) (Nat.le_of_ble_eq_true rfl) dL_law_0 (fun o0 H hP hD hS => ?_)
  have hP : va_P D vwCl ([(o0, .inr (6, [.null, .null, .null, .int 0, .int 0]))]) H := hP
  have hD : va_D (fun q : Nat => s.heap.size ≤ q) ([(o0, .inr (6, [.null, .null, .null, .int 0, .int 0]))]) := hD
  refine lv_dup hx hb dL_law_3 rfl ?_
  refine z_WI (As := []) (rest := [.ref o0]) (wr := ([] : va_W)) (wN := (fun u : ((Nat → Nat) × (Nat → Nat) × (Nat → Nat)) => wD cI (fun _ => o0) u.1 u.2.1 u.2.2 ds0)) [0] [] [0, 1, 2, 3, 4, 5, 6, 7, 8, 9, 10, 11, 12, 13, 14, 15, 16, 17, 18, 19, 20, 21] C hG hA hP hD hS (c_X2_init hfl hs0 D cI cB cJ o0) q810 v_X2_init rfl rfl ⟨by decide, by decide, by decide⟩ (by decide) (fun _ => rfl) rfl ⟨(Nat.le_of_ble_eq_true rfl), (Nat.le_of_ble_eq_true rfl)⟩ ⟨(Nat.le_of_ble_eq_true rfl), (Nat.le_of_ble_eq_true rfl)⟩ hl.1 rfl (lv_room (Nat.le_of_ble_eq_true rfl)) dL_law_4 (fun u4 H locs _ hP hD hS => ?_)
  have hP : va_P D vwCl (wD cI (fun _ => o0) u4.1 u4.2.1 u4.2.2 ds0) H := hP
  have hD : va_D (fun q : Nat => s.heap.size ≤ q) (wD cI (fun _ => o0) u4.1 u4.2.1 u4.2.2 ds0) := hD
  refine lv_astore_n (lv' := [(1, .ref o0), (0, .ref b)]) hx hb dL_law_7 rfl hl (by decide) rfl (fun ls hl => ?_)
  refine va_new (ci := 7) (fs := [.int 0, .int 0, .int 0, .null, .null, .null, .null, .null, .null, .null, .null, .null, .null]) (C := RX3) (T := TX3) (N := 13) hx hb hts in_X3 tyX3 tyX3_ok hown (hts _ q813) (hts _ q807) (hts _ q63) hK hP hD hS hA rfl (fun j hj => by rcases (show j = 0 ∨ j = 1 ∨ j = 2 ∨ j = 3 ∨ j = 4 ∨ j = 5 ∨ j = 6 ∨ j = 7 ∨ j = 8 ∨ j = 9 ∨ j = 10 ∨ j = 11 ∨ j = 12 by omega) with rfl | rfl | rfl | rfl | rfl | rfl | rfl | rfl | rfl | rfl | rfl | rfl | rfl <;> rfl) (Nat.le_of_ble_eq_true rfl) (Nat.le_of_ble_eq_true rfl) dL_law_8 (fun o8 H hP hD hS => ?_)
  have hP : va_P D vwCl (wD cI (fun _ => o0) u4.1 u4.2.1 u4.2.2 ds0 ++ [(o8, .inr (7, [.int 0, .int 0, .int 0, .null, .null, .null, .null, .null, .null, .null, .null, .null, .null]))]) H := hP
  have hD : va_D (fun q : Nat => s.heap.size ≤ q) (wD cI (fun _ => o0) u4.1 u4.2.1 u4.2.2 ds0 ++ [(o8, .inr (7, [.int 0, .int 0, .int 0, .null, .null, .null, .null, .null, .null, .null, .null, .null, .null]))]) := hD
  refine lv_dup hx hb dL_law_11 rfl ?_
  refine z_WI (As := []) (rest := [.ref o8]) (wr := (wD cI (fun _ => o0) u4.1 u4.2.1 u4.2.2 ds0 : va_W)) (wN := (fun u : ((Nat → Nat) × Nat) => wD cI (fun _ => o0) u4.1 u4.2.1 u4.2.2 ds0 ++ wM cI u.1 ms0 ++ wS cB (fun _ => u.1 10) (ss0 u.2))) [22] [0, 1, 2, 3, 4, 5, 6, 7, 8, 9, 10, 11, 12, 13, 14, 15, 16, 17, 18, 19, 20, 21] [0, 1, 2, 3, 4, 5, 6, 7, 8, 9, 10, 11, 12, 13, 14, 15, 16, 17, 18, 19, 20, 21, 22, 23, 24, 25, 26, 27, 28, 29, 30, 31, 32, 33] C hG hA hP hD hS (c_X3_init hfl hs0 D cI cB cJ o8) q814 v_X3_init rfl rfl ⟨by decide, by decide, by decide⟩ (by decide) (fun _ => rfl) rfl ⟨(Nat.le_of_ble_eq_true rfl), (Nat.le_of_ble_eq_true rfl)⟩ ⟨(Nat.le_of_ble_eq_true rfl), (Nat.le_of_ble_eq_true rfl)⟩ hl.1 rfl (lv_room (Nat.le_of_ble_eq_true rfl)) dL_law_12 (fun u12 H locs h hP hD hS => ?_)
  rw [← h]
  have hP : va_P D vwCl (wD cI (fun _ => o0) u4.1 u4.2.1 u4.2.2 ds0 ++ wM cI u12.1 ms0 ++ wS cB (fun _ => u12.1 10) (ss0 u12.2)) H := hP
  have hD : va_D (fun q : Nat => s.heap.size ≤ q) (wD cI (fun _ => o0) u4.1 u4.2.1 u4.2.2 ds0 ++ wM cI u12.1 ms0 ++ wS cB (fun _ => u12.1 10) (ss0 u12.2)) := hD
  refine lv_astore_n (lv' := [(2, .ref (u12.1 0)), (1, .ref o0), (0, .ref b)]) hx hb dL_law_15 rfl hl (by decide) rfl (fun ls hl => ?_)
  refine lv_iconst (v := 1) hx hb dL_law_16 (by decide) ?_
  refine z_newJ (N' := 1) C q808 hA hP hD hS (by decide) (by decide) (by decide) (Nat.le_of_ble_eq_true rfl) (Nat.le_of_ble_eq_true rfl) dL_law_17 (fun o17 H hP hD hS => ?_)
  have hP : va_P D vwCl (wD cI (fun _ => o0) u4.1 u4.2.1 u4.2.2 ds0 ++ wM cI u12.1 ms0 ++ wS cB (fun _ : Nat => u12.1 10) (ss0 u12.2) ++ [(((fun _ : Nat => o17) 0), .inl (cJ, 1, .inr (.inl (fun _ => 0))))]) H := hP
  have hD : va_D (fun q : Nat => s.heap.size ≤ q) (wD cI (fun _ => o0) u4.1 u4.2.1 u4.2.2 ds0 ++ wM cI u12.1 ms0 ++ wS cB (fun _ : Nat => u12.1 10) (ss0 u12.2) ++ [(((fun _ : Nat => o17) 0), .inl (cJ, 1, .inr (.inl (fun _ => 0))))]) := hD
  refine lv_astore_n (lv' := [(3, .ref o17), (2, .ref (u12.1 0)), (1, .ref o0), (0, .ref b)]) hx hb dL_law_19 rfl hl (by decide) rfl (fun ls hl => ?_)
  refine lv_iconst (v := 0) hx hb dL_law_20 (by decide) ?_
  refine lv_istore (lv' := [(4, .int 0), (3, .ref o17), (2, .ref (u12.1 0)), (1, .ref o0), (0, .ref b)]) hx hb dL_law_21 hl (by decide) rfl (fun ls hl => ?_)
  refine W.widen (k := 35 + 210 * (513 - 513)) (n := 670 + 6594 * (513 - 513)) (Nat.le_of_ble_eq_true rfl) (Nat.le_of_ble_eq_true rfl) ?_
  exact law_loop (dA := fun _ => o0) (bA := u4.1) (aA := u4.2.1) (tA := u4.2.2) (mA := u12.1) (oA := fun _ => o17) hfl hs0 C hA hG hX hbl 513 (Nat.le_refl _) 0 ds0 ms0 (ss0 u12.2) (fun _ => 0) H _ hP hD hS ls (lv_sub hl [4, 3, 2, 1, 0] rfl) (hmath u12.2)

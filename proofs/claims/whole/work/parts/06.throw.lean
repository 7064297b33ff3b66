/-! THROWS: 'throw new E("text")' over the law's start; the start's facts moved to where they are asked. -/
def zg (w : Cond) : Bool := goodWord w || (match w with | .castable .. => true | .declares _ => true | _ => false)
theorem z_word {s0 s : State} {D : va_G} {tys : List (ClassId × FieldType)} {p : Program} {m : MethodId} {args : Array Value} {meth : Method} {c : Code} {cc : ByteArray} {own : String} {rt : Option FieldType} {nL : Nat} (hs0 : zS s0) (C : zC D tys p s m args meth c cc own rt nL) (hW : s0.WarmedH s.vm) {w : Cond} (h : w ∈ lw_tbl) (g : zg w = true) : w.before args s = true := by
  by_cases gw : goodWord w = true
  · exact C.2.2.1 w (List.mem_filter.mpr ⟨List.mem_append_right lw_inh h, gw⟩)
  · obtain ⟨a0, h0, -⟩ := hs0
    have g2 : (∃ a b, w = .castable a b) ∨ ∃ x, w = .declares x := by
      cases w <;> simp_all [zg]
    rcases g2 with ⟨a, b, rfl⟩ | ⟨x, rfl⟩
    · exact va_Nw.use rfl (va_Nw.warmC hW (va_Nw.of rfl (h0 _ h)))
    · exact va_Nw.use rfl (va_Nw.warmD hW (va_Nw.of rfl (h0 _ h)))
abbrev zExN : List String := ["java/lang/RuntimeException", "java/lang/Exception"]
/-- the words of one throw -/
def zTh (own cls text : String) (ik is ic : Nat) : Prop :=
  Cond.classLink own ik cls ∈ lw_all ∧ Cond.initialized cls ∈ lw_all ∧ Bundle.fit cls = true ∧ (∀ w ∈ vx_atS own ic cls zExN, w ∈ lw_tbl) ∧ (vx_atS own ic cls zExN).all zg = true ∧ (Cond.classLink own ik cls :: Cond.initialized cls :: vx_atS own ic cls zExN).all vx_ot = true ∧ Cond.stringRef own is text ∈ lw_tbl ∧ Cond.exactly (.string own is) "java/lang/String" ∈ flatC (Jvm.Cond.and given_1 narrow_1)
theorem z_fitN : ∀ n ∈ zExN, Bundle.fit n = true := by decide +kernel
theorem z_Zq {s0 s : State} {A : Nat → Prop} (hs0 : zS s0) (hG : zG s0 A s s.heap) {C n d : String} (hl : Cond.laysStatic C n d ∈ lw_tbl) (hi : Cond.initialized C ∈ lw_tbl) (hr : Cond.isRef (.static C n d) ∈ flatC (Jvm.Cond.and given_1 narrow_1)) : vx_Zq C n d A s s.heap := by
  obtain ⟨a0, h0, h1⟩ := hs0
  have z0 : vx_Zq C n d (fun q : Nat => s0.heap.size ≤ q) s0 s0.heap := vx_Zqof (h0 _ hl) (h0 _ hi) (flat_of_before _ h1 _ hr) (fun a ha => Nat.not_le.mpr ha)
  exact (((vx_Zq.moved hG.1.alike z0).kept (fun a ha _ => hG.2.2.2 a ha))).narrow hG.2.1
theorem z_U1 : Cond.laysStatic Bundle.tN "UNASSIGNED_STACK" Bundle.steD ∈ lw_tbl := List.mem_append_right _ (List.mem_append_left _ (List.mem_of_getElem? (i := 189) (by decide +kernel)))
theorem z_N1 : Cond.laysStatic Bundle.tN "SUPPRESSED_SENTINEL" Bundle.listD ∈ lw_tbl := List.mem_append_right _ (List.mem_append_left _ (List.mem_of_getElem? (i := 191) (by decide +kernel)))
theorem z_U2 : Cond.initialized Bundle.tN ∈ lw_tbl := List.mem_append_right _ (List.mem_append_left _ (List.mem_of_getElem? (i := 9) (by decide +kernel)))
theorem z_U3 : Cond.isRef (.static Bundle.tN "UNASSIGNED_STACK" Bundle.steD) ∈ flatC (Jvm.Cond.and given_1 narrow_1) := by decide +kernel
theorem z_N3 : Cond.isRef (.static Bundle.tN "SUPPRESSED_SENTINEL" Bundle.listD) ∈ flatC (Jvm.Cond.and given_1 narrow_1) := by decide +kernel
theorem z_str {s0 s : State} {own text : String} {is : Nat} (hs0 : zS s0) (hW : s0.WarmedH s.vm) (h1 : Cond.stringRef own is text ∈ lw_tbl) (h2 : Cond.exactly (.string own is) "java/lang/String" ∈ flatC (Jvm.Cond.and given_1 narrow_1)) : ∃ sa, vk_R own is text sa s := by
  obtain ⟨a0, h0, hn⟩ := hs0
  obtain ⟨a, c, cell, k, e1, -⟩ := Cond.exactly_spec (show (Cond.exactly (.string own is) "java/lang/String").holds a0 s0 none s0 [] = true from flat_of_before _ hn _ h2)
  exact ⟨a, vk_R.warm hW (vk_R.of (A := a0) (h0 _ h1) e1)⟩
section ZT
variable {s0 : State} {p : Program} {l : Launch} {e : Env} {R : Room} {s : State} {m : MethodId} {args : Array Value} {below : List Frame} {meth : Method} {c : Code} {H : Heap} {locs : List Loc} {cells slots : Nat}
variable {D : va_G} {tys : List (ClassId × FieldType)} {cc : ByteArray} {own : String} {rt : Option FieldType} {nL : Nat} {pc : Nat} {ls : Array Slot} {rest : List Value} {A : Nat → Prop} {mc ms : Nat}
theorem z_throw {cls text : String} {ik is ic : Nat} {Qc : Array Value → State → Outcome → State → Prop} {px : String → Prop} {w0 : va_W} (hs0 : zS s0) (hl : l.stackTraces = false) (C : zC D tys p s m args meth c cc own rt nL) (hnt : ∀ x ∈ c.exceptionTable.toList, False) (hG : zG s0 A s s.heap) (X : zTh own cls text ik is ic) (hP : va_P D vwCl w0 H) (hS : va_S A s.heap H locs) (hsz : ls.size = nL)
    (d0 : decode cc pc = .ok (.new ik, 3)) (d3 : decode cc (pc + 3) = .ok (.dup, 1)) (d4 : decode cc (pc + 4) = .ok (.ldc is, 2)) (d6 : decode cc (pc + 6) = .ok (.invokespecial ic, 3)) (d9 : decode cc (pc + 9) = .ok (.athrow, 1))
    (hRf : 5 < R.frames) (hRl : (rest.map fun v => v.category).sum + 82 ≤ R.locals) (hRc : cells + 1 ≤ R.cells) (hRs : slots + 6 ≤ R.slots) (hE : px cls) (hc : cells + 1 ≤ mc) (hs : slots + 6 ≤ ms) :
    W p l e R s m args below meth c H locs cells slots (vx_MQ below Qc (zXC D px w0 A) args s mc ms A) (F0 m pc ls rest) := by
  obtain ⟨x1, x2, x3, x4, x5, x6, x7, x8⟩ := X
  obtain ⟨sa, hstr⟩ := z_str hs0 hG.1 x7 x8
  have hat : ∀ w ∈ vx_atS own ic cls zExN, w.before args s = true := fun w hw => z_word hs0 C hG.1 (x4 w hw) (List.all_eq_true.mp x5 w hw)
  exact vx_throwS C.1 C.2.1 hl C.2.2.2.1 x3 z_fitN (C.2.2.1 _ x1) (C.2.2.1 _ x2) hstr hat (fun w hw => List.all_eq_true.mp x6 w hw) (z_Zq hs0 hG z_U1 z_U2 z_U3) (z_Zq hs0 hG z_N1 z_U2 z_N3) hS (hsz.trans C.2.2.2.2.2.1.symm) d0 d3 d4 d6 d9 (fun x hx => (hnt x hx).elim) hRf hRl hRc hRs C.2.2.2.2.2.2.1
    (fun t _ h1 h2 => ⟨hE, hP.kept (fun k q hk => h2 q.1 (hP k q hk).lt), Nat.le_trans hS.1 h1, fun q hq hn => (h2 q (Nat.lt_of_lt_of_le hq hS.1)).trans (hS.2.1 q hq hn)⟩) hS.2.2 hc hs
end ZT
theorem z_at1 : ∀ w ∈ vx_atS RX2 221 "java/lang/IndexOutOfBoundsException" zExN, w ∈ lw_tbl := by decide +kernel
theorem z_at2 : ∀ w ∈ vx_atS RX2 58 "java/lang/IllegalArgumentException" zExN, w ∈ lw_tbl := by decide +kernel
theorem z_at3 : ∀ w ∈ vx_atS RX2 40 "java/lang/IllegalStateException" zExN, w ∈ lw_tbl := by decide +kernel
theorem z_ag1 : (vx_atS RX2 221 "java/lang/IndexOutOfBoundsException" zExN).all zg = true ∧ (Cond.classLink RX2 217 "java/lang/IndexOutOfBoundsException" :: Cond.initialized "java/lang/IndexOutOfBoundsException" :: vx_atS RX2 221 "java/lang/IndexOutOfBoundsException" zExN).all vx_ot = true := by decide +kernel
theorem z_ag2 : (vx_atS RX2 58 "java/lang/IllegalArgumentException" zExN).all zg = true ∧ (Cond.classLink RX2 54 "java/lang/IllegalArgumentException" :: Cond.initialized "java/lang/IllegalArgumentException" :: vx_atS RX2 58 "java/lang/IllegalArgumentException" zExN).all vx_ot = true := by decide +kernel
theorem z_ag3 : (vx_atS RX2 40 "java/lang/IllegalStateException" zExN).all zg = true ∧ (Cond.classLink RX2 36 "java/lang/IllegalStateException" :: Cond.initialized "java/lang/IllegalStateException" :: vx_atS RX2 40 "java/lang/IllegalStateException" zExN).all vx_ot = true := by decide +kernel
theorem z_th1 {text : String} {is : Nat} (h7 : Cond.stringRef RX2 is text ∈ lw_tbl) (h8 : Cond.exactly (.string RX2 is) "java/lang/String" ∈ flatC (Jvm.Cond.and given_1 narrow_1)) (h1 : Cond.classLink RX2 217 "java/lang/IndexOutOfBoundsException" ∈ lw_all) (h2 : Cond.initialized "java/lang/IndexOutOfBoundsException" ∈ lw_all) : zTh RX2 "java/lang/IndexOutOfBoundsException" text 217 is 221 := ⟨h1, h2, by decide +kernel, z_at1, z_ag1.1, z_ag1.2, h7, h8⟩
theorem z_th2 {text : String} {is : Nat} (h7 : Cond.stringRef RX2 is text ∈ lw_tbl) (h8 : Cond.exactly (.string RX2 is) "java/lang/String" ∈ flatC (Jvm.Cond.and given_1 narrow_1)) (h1 : Cond.classLink RX2 54 "java/lang/IllegalArgumentException" ∈ lw_all) (h2 : Cond.initialized "java/lang/IllegalArgumentException" ∈ lw_all) : zTh RX2 "java/lang/IllegalArgumentException" text 54 is 58 := ⟨h1, h2, by decide +kernel, z_at2, z_ag2.1, z_ag2.2, h7, h8⟩
theorem z_th3 {text : String} {is : Nat} (h7 : Cond.stringRef RX2 is text ∈ lw_tbl) (h8 : Cond.exactly (.string RX2 is) "java/lang/String" ∈ flatC (Jvm.Cond.and given_1 narrow_1)) (h1 : Cond.classLink RX2 36 "java/lang/IllegalStateException" ∈ lw_all) (h2 : Cond.initialized "java/lang/IllegalStateException" ∈ lw_all) : zTh RX2 "java/lang/IllegalStateException" text 36 is 40 := ⟨h1, h2, by decide +kernel, z_at3, z_ag3.1, z_ag3.2, h7, h8⟩

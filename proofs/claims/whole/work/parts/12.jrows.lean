/-! ROWS FOR THE JDK's StringBuilder: calls of inherited, private and super's methods; new rows of a known class; the start's statics and String constants. -/
abbrev YS : Type := Nat × (Nat → Int32)
abbrev SS : Type := Nat × YS × Int32 × Int32
abbrev wS (cB : ClassId) (sA : Nat → Nat) (x : SS) : va_W := [((sA 0), .inr (1, [.ref x.1, .int 0, .int x.2.2.1, .int x.2.2.2])), (x.1, .inl (cB, x.2.1.1, .inl x.2.1.2))]
abbrev wY (cB : ClassId) (vA : Nat → Nat) (y : YS) : va_W := [((vA 0), .inl (cB, y.1, .inl y.2))]
theorem zt_J4 : zT 4 TJ4 tyJ4 := ⟨tyJ4_ok, nmJ4⟩
theorem in_J4 : ∀ w ∈ u_ws RJ4 TJ4 4, w ∈ lw_all := by decide +kernel
theorem z_selp {y z : MethodName} {s : State} {args : Array Value} {Cn : String} {n : Nat} (hy : y.cls ≠ "java/lang/invoke/MethodHandle" ∧ y.cls ≠ "java/lang/invoke/VarHandle")
    (hins : (Cond.instantiable Cn n).before args s = true) (hpriv : (Cond.privateMethod y).before args s = true) (hinst : (Cond.instanceMethod y).before args s = true)
    (hz : z.cls = y.cls) (hselz : (Cond.selects Cn z z).before args s = true) :
    (Cond.selects Cn y y).before args s = true := by
  obtain ⟨c, k, hc, hk, -, hniab, -, -⟩ := Cond.instantiable_spec hins
  have hni : k.isInterface = false := (Bool.or_eq_false_iff.mp hniab).1
  obtain ⟨mk, methM, hnamed, hmethM, -, -⟩ := Cond.instanceMethod_spec hinst
  have hfound : s.methodFound? y.cls y.name y.desc = some mk := State.methodFound?_of_named hnamed hy
  have hsel : selectMethod {} s.vm c mk = .method mk := selectMethod_private hmethM (Cond.privateMethod_at hpriv mk methM hnamed hmethM)
  obtain ⟨kY, hkY, hkYn⟩ := className_of_methodNamed hnamed
  obtain ⟨-, -, m2, -, -, q3, -, kP, hkP, hkPi⟩ := Cond.selects_spec hselz
  have e1 := findClass_of_methodNamed q3
  rw [hz] at e1
  have e2 : m2.cls = mk.cls := Option.some.inj (e1.symm.trans (findClass_of_methodNamed hnamed))
  rw [e2] at hkP
  have e3 : kP = kY := Option.some.inj (hkP.symm.trans hkY)
  have hni' : kY.isInterface = false := e3 ▸ hkPi
  simp only [Cond.before, Cond.holds, Cond.value, hc, hfound, hnamed, hsel, hkY, hk]
  simp [hni']
/-- a method that is inherited or private, called on a StringBuilder -/
def zU (y : MethodName) (bytes : ByteArray) (maxL : Nat) (ret : Option FieldType) (n : Nat) : Prop := Cond.instanceMethod y ∈ lw_all ∧ Cond.sameMethod y.cls y.cls y.name y.desc ∈ lw_all ∧ Cond.initialized y.cls ∈ lw_all ∧ Cond.code y bytes maxL ret ∈ lw_all ∧ y.cls ≠ "java/lang/invoke/MethodHandle" ∧ y.cls ≠ "java/lang/invoke/VarHandle" ∧ (parseMethodDescriptor y.desc).map (fun d => d.parameters.length) = some n
section ZJ
variable {s0 : State} {p : Program} {l : Launch} {e : Env} {R : Room} {s : State} {m : MethodId} {args : Array Value} {below : List Frame} {meth : Method} {c : Code} {H : Heap} {locs : List Loc} {cells slots : Nat} {Q : State → Prop}
variable {D : va_G} {tys : List (ClassId × FieldType)} {cc : ByteArray} {own : String} {rt : Option FieldType} {nL : Nat} {pc : Nat} {ls : Array Slot} {rest : List Value} {ws : va_W} {A : Nat → Prop} {a : Nat} {mc ms : Nat}
theorem z_cu {k maxL n index : Nat} {y : MethodName} {bytes : ByteArray} {ret : Option FieldType} {Cn : String} (C : zC D tys p s m args meth c cc own rt nL) (hl : Cond.methodLink own index y ∈ lw_all) (F : zU y bytes maxL ret n) (hse : (Cond.selects Cn y y).before args s = true) (hR : k + 1 ≤ R.frames ∧ 8 + (maxL + 11) + 40 * k ≤ R.locals) :
    va_CU R s args own Cn y.cls index y y bytes maxL ret (ws_ y bytes maxL ret) (zr k mc ms) mc ms n := by
  obtain ⟨f1, f2, f3, f4, f5, f6, f7⟩ := F
  refine ⟨⟨rfl, rfl, hR.1, hR.2, pay_in C.2.2.1 (ws_good f4), List.mem_cons_self⟩, C.2.2.1 _ f4, C.2.2.1 _ f3, ⟨f5, f6⟩, fun sig h => ?_, C.2.2.1 _ hl, C.2.2.1 _ f2, va_Decl.of (C.2.2.1 _ f1) (C.2.2.1 _ f4), hse, C.2.2.1 _ f1⟩
  rw [h] at f7
  exact (Option.some.inj f7).symm
theorem z_cs {k maxL n index : Nat} {y : MethodName} {bytes : ByteArray} {ret : Option FieldType} (C : zC D tys p s m args meth c cc own rt nL) (hl : Cond.methodLink own index y ∈ lw_all) (F : zU y bytes maxL ret n) (hsup : Cond.superclass own y.cls ∈ lw_all) (hni : y.name ≠ "<init>") (hR : k + 1 ≤ R.frames ∧ 8 + (maxL + 11) + 40 * k ≤ R.locals) :
    va_CS R s args own index y bytes maxL ret (ws_ y bytes maxL ret) (zr k mc ms) mc ms n := by
  obtain ⟨f1, f2, f3, f4, f5, f6, f7⟩ := F
  refine ⟨⟨rfl, rfl, hR.1, hR.2, pay_in C.2.2.1 (ws_good f4), List.mem_cons_self⟩, C.2.2.1 _ hl, C.2.2.1 _ f2, C.2.2.1 _ hsup, C.2.2.1 _ f1, C.2.2.1 _ f3, C.2.2.1 _ f4, hni, fun sig h => ?_⟩
  rw [h] at f7
  exact (Option.some.inj f7).symm
theorem z_RU {S : Type} {rv : S → Option Value} {post : S → Prop} {y : MethodName} {bytes : ByteArray} {maxL n k index ci : Nat} {ret : Option FieldType} {b : Nat} {As st0 : List Value} {wc : va_W} {fs : List Value} {Cn : String} {T : u_T} {N : Nat} (isC : List Nat) (C : zC D tys p s m args meth c cc own rt nL) (hG : zG s0 (fun _ => False) s H) (hP : va_P D vwCl ws H)
    (hM : zR s0 l D tys y bytes maxL ret k (.ref b :: As) wc rv post) (hl : Cond.methodLink own index y ∈ lw_all) (F : zU y bytes maxL ret n) (hse : (Cond.selects Cn y y).before args s = true) (hC : isC.map (fun i => ws[i]?) = wc.map some) (he : wc[0]? = some (b, .inr (ci, fs))) (hcl : vwCl[ci]? = some (Cn, T, N)) (hn : As.length = n) (hR : k + 1 ≤ R.frames ∧ 8 + (maxL + 11) + 40 * k ≤ R.locals) (hf : cells ≤ R.cells ∧ slots ≤ R.slots)
    (hsz : ls.size = nL) (hst : st0 = As.reverse ++ .ref b :: rest) (hW : 2 * (F0 m pc ls rest).monitorRoom + (rest.map fun v => v.category).sum ≤ 8) (hdg : decode cc pc = .ok (.invokevirtual index, 3))
    (kk : ∀ u : S, post u → W p l e R s m args below meth c H locs cells slots Q (F0 m (pc + 3) ls ((rv u).toList ++ rest))) : W p l e R s m args below meth c H locs cells slots Q (F0 m pc ls st0) :=
  z_endR (va_runU (z_cf C) hM (z_cu C hl F hse hR) ⟨zPr_blind, va_recv C.2.2.2.2.2.2.2 (hP.sub isC (z_fm _ _ hC)) hcl he, z_pr C hG hP hC⟩ rfl hn hsz hst hW hdg hf) kk
theorem z_RSU {S : Type} {rv : S → Option Value} {post : S → Prop} {y : MethodName} {bytes : ByteArray} {maxL n k index ci : Nat} {ret : Option FieldType} {b : Nat} {As st0 : List Value} {wc : va_W} {fs : List Value} {Cn : String} {T : u_T} {N : Nat} (isC : List Nat) (C : zC D tys p s m args meth c cc own rt nL) (hG : zG s0 (fun _ => False) s H) (hP : va_P D vwCl ws H)
    (hM : zR s0 l D tys y bytes maxL ret k (.ref b :: As) wc rv post) (hl : Cond.methodLink own index y ∈ lw_all) (F : zU y bytes maxL ret n) (hsup : Cond.superclass own y.cls ∈ lw_all) (hni : y.name ≠ "<init>") (hC : isC.map (fun i => ws[i]?) = wc.map some) (he : wc[0]? = some (b, .inr (ci, fs))) (hcl : vwCl[ci]? = some (Cn, T, N)) (hn : As.length = n) (hR : k + 1 ≤ R.frames ∧ 8 + (maxL + 11) + 40 * k ≤ R.locals) (hf : cells ≤ R.cells ∧ slots ≤ R.slots)
    (hsz : ls.size = nL) (hst : st0 = As.reverse ++ .ref b :: rest) (hW : 2 * (F0 m pc ls rest).monitorRoom + (rest.map fun v => v.category).sum ≤ 8) (hdg : decode cc pc = .ok (.invokespecial index, 3))
    (kk : ∀ u : S, post u → W p l e R s m args below meth c H locs cells slots Q (F0 m (pc + 3) ls ((rv u).toList ++ rest))) : W p l e R s m args below meth c H locs cells slots Q (F0 m pc ls st0) :=
  z_endR (va_runSU ((C.2.2.2.2.2.2.2.1 ci _ hcl).2) (z_cf C) hM (z_cs C hl F hsup hni hR) ⟨zPr_blind, va_recv C.2.2.2.2.2.2.2 (hP.sub isC (z_fm _ _ hC)) hcl he, z_pr C hG hP hC⟩ rfl hn hsz hst hW hdg hf) kk
theorem z_WU {S : Type} {rv : S → Option Value} {post : S → Prop} {w1 wN : S → va_W} {wc wr : va_W} {y : MethodName} {bytes : ByteArray} {maxL n k index ci : Nat} {ret : Option FieldType} {b : Nat} {As st0 : List Value} {fs : List Value} {Cn : String} {T : u_T} {N : Nat} (isC isR perm : List Nat) (C : zC D tys p s m args meth c cc own rt nL) (hG : zG s0 A s s.heap) (hA : ∀ q : Nat, s.heap.size ≤ q → A q) (hP : va_P D vwCl ws H) (hD : va_D A ws) (hS : va_S A s.heap H locs)
    (hM : zW s0 l D tys y bytes maxL ret k mc ms (.ref b :: As) wc rv post w1) (hl : Cond.methodLink own index y ∈ lw_all) (F : zU y bytes maxL ret n) (hse : (Cond.selects Cn y y).before args s = true)
    (hC : isC.map (fun i => ws[i]?) = wc.map some) (hRr : isR.map (fun i => ws[i]?) = wr.map some) (hnn : va_nd isC = true ∧ va_nd isR = true ∧ va_nd perm = true) (hdis : ∀ i ∈ isR, i ∉ isC) (hperm : ∀ u, perm.map (fun i => (wr ++ w1 u)[i]?) = (wN u).map some)
    (he : wc[0]? = some (b, .inr (ci, fs))) (hcl : vwCl[ci]? = some (Cn, T, N)) (hn : As.length = n) (hR : k + 1 ≤ R.frames ∧ 8 + (maxL + 11) + 40 * k ≤ R.locals) (hf : cells + mc ≤ R.cells ∧ slots + ms ≤ R.slots)
    (hsz : ls.size = nL) (hst : st0 = As.reverse ++ .ref b :: rest) (hW : 2 * (F0 m pc ls rest).monitorRoom + (rest.map fun v => v.category).sum ≤ 8) (hdg : decode cc pc = .ok (.invokevirtual index, 3))
    (kk : ∀ (u : S) (H1 : Heap) (locs1 : List Loc), post u → va_P D vwCl (wN u) H1 → va_D A (wN u) → va_S A s.heap H1 locs1 → W p l e R s m args below meth c H1 locs1 (cells + mc) (slots + ms) Q (F0 m (pc + 3) ls ((rv u).toList ++ rest))) : W p l e R s m args below meth c H locs cells slots Q (F0 m pc ls st0) :=
  z_endW isC isR perm hA hP hD hS hC hRr hnn.2.1 hdis hperm hnn.2.2 (va_runU (z_cf C) (hM H.size) (z_cu C hl F hse hR) ⟨zPw_blind, va_recv C.2.2.2.2.2.2.2 (hP.sub isC (z_fm _ _ hC)) hcl he, z_pw C hG hA hP hD hS hC hnn.1⟩ rfl hn hsz hst hW hdg hf) kk
theorem z_WSU {S : Type} {rv : S → Option Value} {post : S → Prop} {w1 wN : S → va_W} {wc wr : va_W} {y : MethodName} {bytes : ByteArray} {maxL n k index ci : Nat} {ret : Option FieldType} {b : Nat} {As st0 : List Value} {fs : List Value} {Cn : String} {T : u_T} {N : Nat} (isC isR perm : List Nat) (C : zC D tys p s m args meth c cc own rt nL) (hG : zG s0 A s s.heap) (hA : ∀ q : Nat, s.heap.size ≤ q → A q) (hP : va_P D vwCl ws H) (hD : va_D A ws) (hS : va_S A s.heap H locs)
    (hM : zW s0 l D tys y bytes maxL ret k mc ms (.ref b :: As) wc rv post w1) (hl : Cond.methodLink own index y ∈ lw_all) (F : zU y bytes maxL ret n) (hsup : Cond.superclass own y.cls ∈ lw_all) (hni : y.name ≠ "<init>")
    (hC : isC.map (fun i => ws[i]?) = wc.map some) (hRr : isR.map (fun i => ws[i]?) = wr.map some) (hnn : va_nd isC = true ∧ va_nd isR = true ∧ va_nd perm = true) (hdis : ∀ i ∈ isR, i ∉ isC) (hperm : ∀ u, perm.map (fun i => (wr ++ w1 u)[i]?) = (wN u).map some)
    (he : wc[0]? = some (b, .inr (ci, fs))) (hcl : vwCl[ci]? = some (Cn, T, N)) (hn : As.length = n) (hR : k + 1 ≤ R.frames ∧ 8 + (maxL + 11) + 40 * k ≤ R.locals) (hf : cells + mc ≤ R.cells ∧ slots + ms ≤ R.slots)
    (hsz : ls.size = nL) (hst : st0 = As.reverse ++ .ref b :: rest) (hW : 2 * (F0 m pc ls rest).monitorRoom + (rest.map fun v => v.category).sum ≤ 8) (hdg : decode cc pc = .ok (.invokespecial index, 3))
    (kk : ∀ (u : S) (H1 : Heap) (locs1 : List Loc), post u → va_P D vwCl (wN u) H1 → va_D A (wN u) → va_S A s.heap H1 locs1 → W p l e R s m args below meth c H1 locs1 (cells + mc) (slots + ms) Q (F0 m (pc + 3) ls ((rv u).toList ++ rest))) : W p l e R s m args below meth c H locs cells slots Q (F0 m pc ls st0) :=
  z_endW isC isR perm hA hP hD hS hC hRr hnn.2.1 hdis hperm hnn.2.2 (va_runSU ((C.2.2.2.2.2.2.2.1 ci _ hcl).2) (z_cf C) (hM H.size) (z_cs C hl F hsup hni hR) ⟨zPw_blind, va_recv C.2.2.2.2.2.2.2 (hP.sub isC (z_fm _ _ hC)) hcl he, z_pw C hG hA hP hD hS hC hnn.1⟩ rfl hn hsz hst hW hdg hf) kk
-- new rows, of the class that the tables know
theorem z_newB {cI cB cJ : ClassId} {n : Int32} {N' : Nat} (C : zC D (zty cI cB cJ) p s m args meth c cc own rt nL) (hw : Cond.arrayClass .byte ∈ lw_all) (hA : ∀ q : Nat, s.heap.size ≤ q → A q) (hP : va_P D vwCl ws H) (hD : va_D A ws) (hS : va_S A s.heap H locs) (hn : ¬ n < 0) (hN : n.toNatClampNeg = N') (hby : N' ≤ 536870912) (hcells : cells + 1 ≤ R.cells) (hslots : slots + N' ≤ R.slots) (hdg : decode cc pc = .ok (.newarray .byte, 2))
    (kk : ∀ (q : Nat) (H1 : Heap), va_P D vwCl (ws ++ [(q, .inl (cB, N', .inl (fun _ => 0)))]) H1 → va_D A (ws ++ [(q, .inl (cB, N', .inl (fun _ => 0)))]) → va_S A s.heap H1 locs → W p l e R s m args below meth c H1 locs (cells + 1) (slots + N') Q (F0 m (pc + 2) ls (.ref q :: rest))) : W p l e R s m args below meth c H locs cells slots Q (F0 m pc ls (.int n :: rest)) := by
  refine va_newa (atype := .byte) (ty := .byte) (a0 := (N', .inl (fun _ => 0))) C.1 C.2.1 (C.2.2.1 _ hw) rfl C.2.2.2.2.2.2.2 hP hD hS hA (fun cA => rfl) hn hN (by simpa [componentBytes] using hby) hcells hslots hdg (fun q cA H1 hK hP hD hS => ?_)
  have e1 : s.vm.findClass ("[" ++ FieldType.byte.toString) = some cB := (C.2.2.2.2.2.2.2.2 1 _ rfl).2
  have e2 : s.vm.findClass ("[" ++ FieldType.byte.toString) = some cA := (hK.2 3 _ rfl).2
  cases Option.some.inj (e1.symm.trans e2)
  exact kk q H1 hP hD hS
theorem z_newI {cI cB cJ : ClassId} {n : Int32} {N' : Nat} (C : zC D (zty cI cB cJ) p s m args meth c cc own rt nL) (hw : Cond.arrayClass .int ∈ lw_all) (hA : ∀ q : Nat, s.heap.size ≤ q → A q) (hP : va_P D vwCl ws H) (hD : va_D A ws) (hS : va_S A s.heap H locs) (hn : ¬ n < 0) (hN : n.toNatClampNeg = N') (hby : N' ≤ 100000) (hcells : cells + 1 ≤ R.cells) (hslots : slots + N' ≤ R.slots) (hdg : decode cc pc = .ok (.newarray .int, 2))
    (kk : ∀ (q : Nat) (H1 : Heap), va_P D vwCl (ws ++ [(q, .inl (cI, N', .inl (fun _ => 0)))]) H1 → va_D A (ws ++ [(q, .inl (cI, N', .inl (fun _ => 0)))]) → va_S A s.heap H1 locs → W p l e R s m args below meth c H1 locs (cells + 1) (slots + N') Q (F0 m (pc + 2) ls (.ref q :: rest))) : W p l e R s m args below meth c H locs cells slots Q (F0 m pc ls (.int n :: rest)) := by
  refine va_newa (atype := .int) (ty := .int) (a0 := (N', .inl (fun _ => 0))) C.1 C.2.1 (C.2.2.1 _ hw) rfl C.2.2.2.2.2.2.2 hP hD hS hA (fun cA => rfl) hn hN (by show N' * 4 ≤ 536870912; omega) hcells hslots hdg (fun q cA H1 hK hP hD hS => ?_)
  have e1 : s.vm.findClass ("[" ++ FieldType.int.toString) = some cI := (C.2.2.2.2.2.2.2.2 0 _ rfl).2
  have e2 : s.vm.findClass ("[" ++ FieldType.int.toString) = some cA := (hK.2 3 _ rfl).2
  cases Option.some.inj (e1.symm.trans e2)
  exact kk q H1 hP hD hS
theorem z_newJ {cI cB cJ : ClassId} {n : Int32} {N' : Nat} (C : zC D (zty cI cB cJ) p s m args meth c cc own rt nL) (hw : Cond.arrayClass .long ∈ lw_all) (hA : ∀ q : Nat, s.heap.size ≤ q → A q) (hP : va_P D vwCl ws H) (hD : va_D A ws) (hS : va_S A s.heap H locs) (hn : ¬ n < 0) (hN : n.toNatClampNeg = N') (hby : N' ≤ 100000) (hcells : cells + 1 ≤ R.cells) (hslots : slots + N' ≤ R.slots) (hdg : decode cc pc = .ok (.newarray .long, 2))
    (kk : ∀ (q : Nat) (H1 : Heap), va_P D vwCl (ws ++ [(q, .inl (cJ, N', .inr (.inl (fun _ => 0))))]) H1 → va_D A (ws ++ [(q, .inl (cJ, N', .inr (.inl (fun _ => 0))))]) → va_S A s.heap H1 locs → W p l e R s m args below meth c H1 locs (cells + 1) (slots + N') Q (F0 m (pc + 2) ls (.ref q :: rest))) : W p l e R s m args below meth c H locs cells slots Q (F0 m pc ls (.int n :: rest)) := by
  refine va_newa (atype := .long) (ty := .long) (a0 := (N', .inr (.inl (fun _ => 0)))) C.1 C.2.1 (C.2.2.1 _ hw) rfl C.2.2.2.2.2.2.2 hP hD hS hA (fun cA => rfl) hn hN (by show N' * 8 ≤ 536870912; omega) hcells hslots hdg (fun q cA H1 hK hP hD hS => ?_)
  have e1 : s.vm.findClass ("[" ++ FieldType.long.toString) = some cJ := (C.2.2.2.2.2.2.2.2 2 _ rfl).2
  have e2 : s.vm.findClass ("[" ++ FieldType.long.toString) = some cA := (hK.2 3 _ rfl).2
  cases Option.some.inj (e1.symm.trans e2)
  exact kk q H1 hP hD hS
end ZJ
-- the start's statics
abbrev zA0 (s0 : State) : Nat → Prop := fun q => s0.heap.size ≤ q
theorem z_Z {s0 s : State} {A : Nat → Prop} {C n d : String} {v : Value} (hG : zG s0 A s s.heap) (h : va_Z C n d v (zA0 s0) s0 s0.heap) : va_Z C n d v A s s.heap :=
  ((va_Z.moved hG.1.alike h).kept (fun a ha _ => hG.2.2.2 a ha)).narrow hG.2.1
theorem z_T {s0 s : State} {A : Nat → Prop} {ty : FieldType} {t N : Nat} {f : Nat → Value} (hG : zG s0 A s s.heap) (h : va_T ty t N f (zA0 s0) s0 s0.heap) : va_T ty t N f A s s.heap :=
  ((va_T.moved hG.1.alike h).kept (fun a ha _ => hG.2.2.2 a ha)).narrow hG.2.1
theorem z_CS1 : Cond.laysStatic "java/lang/String" "COMPACT_STRINGS" "Z" ∈ lw_tbl := List.mem_append_right _ (List.mem_append_right _ (List.mem_append_left _ (List.mem_of_getElem? (i := 210) (by decide +kernel))))
theorem z_CS2 : Cond.initialized "java/lang/String" ∈ lw_tbl := List.mem_append_right _ (List.mem_append_left _ (List.mem_of_getElem? (i := 7) (by decide +kernel)))
theorem z_CS3 : Cond.eq (.static "java/lang/String" "COMPACT_STRINGS" "Z") (.int 1) ∈ flatC (Jvm.Cond.and given_1 narrow_1) := by decide +kernel
theorem z_CS {s0 s : State} {A : Nat → Prop} (hs0 : zS s0) (hG : zG s0 A s s.heap) : va_Z "java/lang/String" "COMPACT_STRINGS" "Z" (.int 1) A s s.heap := by
  obtain ⟨a0, h0, h1⟩ := hs0
  exact z_Z hG (va_Zof (h0 _ z_CS1) (h0 _ z_CS2) (va_eqi (flat_of_before _ h1 _ z_CS3)) (fun a ha => Nat.not_le.mpr ha))
theorem z_SF1 : Cond.laysStatic "jdk/internal/util/Preconditions" "SIOOBE_FORMATTER" "Ljava/util/function/BiFunction;" ∈ lw_tbl := List.mem_append_right _ (List.mem_append_right _ (List.mem_append_right _ (List.mem_append_left _ (List.mem_of_getElem? (i := 58) (by decide +kernel)))))
theorem z_SF2 : Cond.initialized "jdk/internal/util/Preconditions" ∈ lw_tbl := List.mem_append_right _ (List.mem_append_left _ (List.mem_of_getElem? (i := 20) (by decide +kernel)))
theorem z_SF3 : Cond.isRef (.static "jdk/internal/util/Preconditions" "SIOOBE_FORMATTER" "Ljava/util/function/BiFunction;") ∈ flatC (Jvm.Cond.and given_1 narrow_1) := by decide +kernel
theorem z_SF {s0 s : State} {A : Nat → Prop} (hs0 : zS s0) (hG : zG s0 A s s.heap) : va_Z "jdk/internal/util/Preconditions" "SIOOBE_FORMATTER" "Ljava/util/function/BiFunction;" .null A s s.heap ∨ ∃ t : Nat, va_Z "jdk/internal/util/Preconditions" "SIOOBE_FORMATTER" "Ljava/util/function/BiFunction;" (.ref t) A s s.heap :=
  (z_Zq hs0 hG z_SF1 z_SF2 z_SF3).1
/-- a String constant: its object k, its row v of n letters f -/
def zK (s0 : State) (k v n : Nat) (f : Nat → Int32) : Prop := va_O "java/lang/String" k (zA0 s0) s0 s0.heap ∧ va_OF "java/lang/String" "coder" "B" (.int 0) k (zA0 s0) s0 s0.heap ∧ va_OF "java/lang/String" "value" "[B" (.ref v) k (zA0 s0) s0 s0.heap ∧ va_T .byte v n (fun j => .int (f j)) (zA0 s0) s0 s0.heap
section ZKs
variable {s0 s : State} {A : Nat → Prop} {k v n : Nat} {f : Nat → Int32}
theorem zK.o (h : zK s0 k v n f) (hG : zG s0 A s s.heap) : va_O "java/lang/String" k A s s.heap := ((va_O.moved hG.1.alike h.1).kept (fun a ha _ => hG.2.2.2 a ha)).narrow hG.2.1
theorem zK.c (h : zK s0 k v n f) (hG : zG s0 A s s.heap) : va_OF "java/lang/String" "coder" "B" (.int 0) k A s s.heap := ((va_OF.moved hG.1.alike h.2.1).kept (fun a ha _ => hG.2.2.2 a ha)).narrow hG.2.1
theorem zK.w (h : zK s0 k v n f) (hG : zG s0 A s s.heap) : va_OF "java/lang/String" "value" "[B" (.ref v) k A s s.heap := ((va_OF.moved hG.1.alike h.2.2.1).kept (fun a ha _ => hG.2.2.2 a ha)).narrow hG.2.1
theorem zK.t (h : zK s0 k v n f) (hG : zG s0 A s s.heap) : va_T .byte v n (fun j => .int (f j)) A s s.heap := z_T hG h.2.2.2
end ZKs
def zk_has (tm : Term) (bs : List Int32) : Prop := Cond.exactly tm "java/lang/String" ∈ flatC (Jvm.Cond.and given_1 narrow_1) ∧ Cond.eq (.field tm "java/lang/String" "coder" "B") (.int 0) ∈ flatC (Jvm.Cond.and given_1 narrow_1) ∧ Cond.arrayOf (.field tm "java/lang/String" "value" "[B") .byte ∈ flatC (Jvm.Cond.and given_1 narrow_1) ∧ Cond.eq (.length (.field tm "java/lang/String" "value" "[B")) (.int (Int32.ofNat bs.length)) ∈ flatC (Jvm.Cond.and given_1 narrow_1) ∧ ∀ j, j < bs.length → Cond.eq (.elem (.field tm "java/lang/String" "value" "[B") (.int (Int32.ofNat j))) (.int (bs.getD j 0)) ∈ flatC (Jvm.Cond.and given_1 narrow_1)
theorem zk_of {s0 : State} {own text : String} {is : Nat} {bs : List Int32} (hs0 : zS s0) (h : zk_has (.string own is) bs) (hl : bs.length < 1000) (hr : Cond.stringRef own is text ∈ lw_tbl) : ∃ k v, zK s0 k v bs.length (fun j => bs.getD j 0) ∧ ∀ s : State, s0.WarmedH s.vm → vk_R own is text k s := by
  obtain ⟨a0, h0, h1⟩ := hs0
  obtain ⟨e1, e2, e3, e4, e5⟩ := h
  have F := flat_of_before _ h1
  have hz : ∀ i : Nat, i < 1 → i = 0 := fun i hi => Nat.lt_one_iff.mp hi
  obtain ⟨adK, adV, hS, hev⟩ := vk_Sof (args := a0) (s := s0) (N := 1) (tm := fun _ => .string own is) (len := [bs.length]) (byt := [bs]) (A := zA0 s0)
    (fun i hi => by have h0 := hz i hi; subst h0; exact Nat.lt_trans hl (by decide))
    (fun i _ => F _ e1) (fun i _ => F _ e2) (fun i _ => F _ e3)
    (fun i hi => by have h0 := hz i hi; subst h0; exact F _ e4)
    (fun i hi j hj => by have h0 := hz i hi; subst h0; exact F _ (e5 j hj))
    (fun i j hi hj hne => absurd ((hz i hi).trans (hz j hj).symm) hne) (fun a ha => Nat.not_le.mpr ha)
  obtain ⟨g1, g2, g3, g4⟩ := hS.1 0 (by decide)
  exact ⟨adK 0, adV 0, ⟨g1, g2, g3, g4⟩, fun s hW => vk_R.warm hW (vk_R.of (A := a0) (h0 _ hr) (hev 0 (by decide)))⟩
def zdO (j : Nat) : Int32 := Int32.ofNat (48 + j % 10)
def zdT (j : Nat) : Int32 := Int32.ofNat (48 + j / 10)
theorem z_dgOL : ((flatC (Jvm.Cond.and given_1 narrow_1)).drop 10).take 100 = (List.range 100).map (fun j : Nat => Cond.eq (.elem (.static "java/lang/Integer" "DigitOnes" "[B") (.int (Int32.ofNat j))) (.int (zdO j))) := by decide +kernel
theorem z_dgO : Cond.arrayOf (.static "java/lang/Integer" "DigitOnes" "[B") .byte ∈ flatC (Jvm.Cond.and given_1 narrow_1) ∧ Cond.eq (.length (.static "java/lang/Integer" "DigitOnes" "[B")) (.int 100) ∈ flatC (Jvm.Cond.and given_1 narrow_1) ∧ ∀ j, j < 100 → Cond.eq (.elem (.static "java/lang/Integer" "DigitOnes" "[B") (.int (Int32.ofNat j))) (.int (zdO j)) ∈ flatC (Jvm.Cond.and given_1 narrow_1) := by
  refine ⟨by decide +kernel, by decide +kernel, fun j hj => ?_⟩
  refine List.mem_of_mem_drop (i := 10) (List.mem_of_mem_take (i := 100) ?_)
  rw [z_dgOL]
  exact List.mem_map.mpr ⟨j, List.mem_range.mpr hj, rfl⟩
theorem z_dgTL : ((flatC (Jvm.Cond.and given_1 narrow_1)).drop 113).take 100 = (List.range 100).map (fun j : Nat => Cond.eq (.elem (.static "java/lang/Integer" "DigitTens" "[B") (.int (Int32.ofNat j))) (.int (zdT j))) := by decide +kernel
theorem z_dgT : Cond.arrayOf (.static "java/lang/Integer" "DigitTens" "[B") .byte ∈ flatC (Jvm.Cond.and given_1 narrow_1) ∧ Cond.eq (.length (.static "java/lang/Integer" "DigitTens" "[B")) (.int 100) ∈ flatC (Jvm.Cond.and given_1 narrow_1) ∧ ∀ j, j < 100 → Cond.eq (.elem (.static "java/lang/Integer" "DigitTens" "[B") (.int (Int32.ofNat j))) (.int (zdT j)) ∈ flatC (Jvm.Cond.and given_1 narrow_1) := by
  refine ⟨by decide +kernel, by decide +kernel, fun j hj => ?_⟩
  refine List.mem_of_mem_drop (i := 113) (List.mem_of_mem_take (i := 100) ?_)
  rw [z_dgTL]
  exact List.mem_map.mpr ⟨j, List.mem_range.mpr hj, rfl⟩
theorem z_dO1 : Cond.laysStatic "java/lang/Integer" "DigitOnes" "[B" ∈ lw_tbl := List.mem_append_right _ (List.mem_append_right _ (List.mem_append_right _ (List.mem_append_left _ (List.mem_of_getElem? (i := 42) (by decide +kernel)))))
theorem z_dT1 : Cond.laysStatic "java/lang/Integer" "DigitTens" "[B" ∈ lw_tbl := List.mem_append_right _ (List.mem_append_right _ (List.mem_append_right _ (List.mem_append_left _ (List.mem_of_getElem? (i := 44) (by decide +kernel)))))
theorem z_dI : Cond.initialized "java/lang/Integer" ∈ lw_tbl := List.mem_append_right _ (List.mem_append_left _ (List.mem_of_getElem? (i := 15) (by decide +kernel)))
theorem z_dig {s0 s : State} {A : Nat → Prop} (hs0 : zS s0) (hG : zG s0 A s s.heap) {nm : String} {g : Nat → Int32} (hl : Cond.laysStatic "java/lang/Integer" nm "[B" ∈ lw_tbl) (h : Cond.arrayOf (.static "java/lang/Integer" nm "[B") .byte ∈ flatC (Jvm.Cond.and given_1 narrow_1) ∧ Cond.eq (.length (.static "java/lang/Integer" nm "[B")) (.int 100) ∈ flatC (Jvm.Cond.and given_1 narrow_1) ∧ ∀ j, j < 100 → Cond.eq (.elem (.static "java/lang/Integer" nm "[B") (.int (Int32.ofNat j))) (.int (g j)) ∈ flatC (Jvm.Cond.and given_1 narrow_1)) :
    ∃ t, va_Z "java/lang/Integer" nm "[B" (.ref t) A s s.heap ∧ va_T .byte t 100 (fun j => .int (g j)) A s s.heap := by
  obtain ⟨a0, h0, h1⟩ := hs0
  have F := flat_of_before _ h1
  obtain ⟨t, ht, hT⟩ := va_Tof (args := a0) (s := s0) (tm := .static "java/lang/Integer" nm "[B") (ty := .byte) (N := 100) (f := fun j => .int (g j)) (A := zA0 s0) (by decide) (F _ h.1) (va_eqt (F _ h.2.1)) (fun j hj => va_eqt (F _ (h.2.2 j hj))) (fun a ha => Nat.not_le.mpr ha)
  exact ⟨t, z_Z hG (va_Zof (h0 _ hl) (h0 _ z_dI) ht (fun a ha => Nat.not_le.mpr ha)), z_T hG hT⟩
theorem zK.rec {s0 s : State} {A : Nat → Prop} {k v n : Nat} {f : Nat → Int32} {H : Heap} {locs : List Loc} (h : zK s0 k v n f) (hG : zG s0 A s s.heap) (hS : va_S A s.heap H locs) : ∃ cell : Cell, H[k]? = some cell ∧ cell.vm.isStatics = false ∧ s.vm.findClass "java/lang/String" = some cell.cls := by
  obtain ⟨cell, h1, h2, h3, -⟩ := (h.o hG).kept hS.2.1
  exact ⟨cell, h1, h2, h3⟩
section ZJ2
variable {s0 : State} {p : Program} {l : Launch} {e : Env} {R : Room} {s : State} {m : MethodId} {args : Array Value} {below : List Frame} {meth : Method} {c : Code} {H : Heap} {locs : List Loc} {cells slots : Nat} {Q : State → Prop}
variable {D : va_G} {tys : List (ClassId × FieldType)} {cc : ByteArray} {own : String} {rt : Option FieldType} {nL : Nat} {pc : Nat} {ls : Array Slot} {rest : List Value} {ws : va_W} {A : Nat → Prop} {a : Nat} {mc ms : Nat}
theorem z_RVK {S : Type} {rv : S → Option Value} {post : S → Prop} {y : MethodName} {bytes : ByteArray} {maxL n k index : Nat} {ret : Option FieldType} {b : Nat} {As st0 : List Value} {wc : va_W} (isC : List Nat) (C : zC D tys p s m args meth c cc own rt nL) (hG : zG s0 (fun _ => False) s H) (hP : va_P D vwCl ws H)
    (hM : zR s0 l D tys y bytes maxL ret k (.ref b :: As) wc rv post) (hl : Cond.methodLink own index y ∈ lw_all) (F : zV y bytes maxL ret n) (hC : isC.map (fun i => ws[i]?) = wc.map some) (hrec : ∃ cell : Cell, H[b]? = some cell ∧ cell.vm.isStatics = false ∧ s.vm.findClass y.cls = some cell.cls) (hn : As.length = n) (hR : k + 1 ≤ R.frames ∧ 8 + (maxL + 11) + 40 * k ≤ R.locals) (hf : cells ≤ R.cells ∧ slots ≤ R.slots)
    (hsz : ls.size = nL) (hst : st0 = As.reverse ++ .ref b :: rest) (hW : 2 * (F0 m pc ls rest).monitorRoom + (rest.map fun v => v.category).sum ≤ 8) (hdg : decode cc pc = .ok (.invokevirtual index, 3))
    (kk : ∀ u : S, post u → W p l e R s m args below meth c H locs cells slots Q (F0 m (pc + 3) ls ((rv u).toList ++ rest))) : W p l e R s m args below meth c H locs cells slots Q (F0 m pc ls st0) := by
  obtain ⟨f1, f2, f3, f4, f5⟩ := F
  exact z_endR (va_runV (z_cf C) hM ⟨z_cb C hl f3 f4 f5 hR, C.2.2.1 _ f1, C.2.2.1 _ f2⟩ ⟨zPr_blind, hrec, z_pr C hG hP hC⟩ rfl hn hsz hst hW hdg hf) kk
theorem z_WVK {S : Type} {rv : S → Option Value} {post : S → Prop} {w1 wN : S → va_W} {wc wr : va_W} {y : MethodName} {bytes : ByteArray} {maxL n k index : Nat} {ret : Option FieldType} {b : Nat} {As st0 : List Value} (isC isR perm : List Nat) (C : zC D tys p s m args meth c cc own rt nL) (hG : zG s0 A s s.heap) (hA : ∀ q : Nat, s.heap.size ≤ q → A q) (hP : va_P D vwCl ws H) (hD : va_D A ws) (hS : va_S A s.heap H locs)
    (hM : zW s0 l D tys y bytes maxL ret k mc ms (.ref b :: As) wc rv post w1) (hl : Cond.methodLink own index y ∈ lw_all) (F : zV y bytes maxL ret n)
    (hC : isC.map (fun i => ws[i]?) = wc.map some) (hRr : isR.map (fun i => ws[i]?) = wr.map some) (hnn : va_nd isC = true ∧ va_nd isR = true ∧ va_nd perm = true) (hdis : ∀ i ∈ isR, i ∉ isC) (hperm : ∀ u, perm.map (fun i => (wr ++ w1 u)[i]?) = (wN u).map some)
    (hrec : ∃ cell : Cell, H[b]? = some cell ∧ cell.vm.isStatics = false ∧ s.vm.findClass y.cls = some cell.cls) (hn : As.length = n) (hR : k + 1 ≤ R.frames ∧ 8 + (maxL + 11) + 40 * k ≤ R.locals) (hf : cells + mc ≤ R.cells ∧ slots + ms ≤ R.slots)
    (hsz : ls.size = nL) (hst : st0 = As.reverse ++ .ref b :: rest) (hW : 2 * (F0 m pc ls rest).monitorRoom + (rest.map fun v => v.category).sum ≤ 8) (hdg : decode cc pc = .ok (.invokevirtual index, 3))
    (kk : ∀ (u : S) (H1 : Heap) (locs1 : List Loc), post u → va_P D vwCl (wN u) H1 → va_D A (wN u) → va_S A s.heap H1 locs1 → W p l e R s m args below meth c H1 locs1 (cells + mc) (slots + ms) Q (F0 m (pc + 3) ls ((rv u).toList ++ rest))) : W p l e R s m args below meth c H locs cells slots Q (F0 m pc ls st0) := by
  obtain ⟨f1, f2, f3, f4, f5⟩ := F
  exact z_endW isC isR perm hA hP hD hS hC hRr hnn.2.1 hdis hperm hnn.2.2 (va_runV (z_cf C) (hM H.size) ⟨z_cb C hl f3 f4 f5 hR, C.2.2.1 _ f1, C.2.2.1 _ f2⟩ ⟨zPw_blind, hrec, z_pw C hG hA hP hD hS hC hnn.1⟩ rfl hn hsz hst hW hdg hf) kk
end ZJ2

/-! ROWS: fields, arrays, calls, ends, over the prelude's contracts. -/
theorem z_fm {α β : Type} {f : α → Option β} : ∀ (is : List α) (l : List β), is.map f = l.map some → is.filterMap f = l
  | [], [], _ => rfl
  | [], _ :: _, h => by simp at h
  | _ :: _, [], h => by simp at h
  | a :: is, b :: l, h => by
    simp only [List.map_cons, List.cons.injEq] at h
    rw [List.filterMap_cons, h.1]
    exact congrArg (b :: ·) (z_fm is l h.2)
/-- a field, by its place in its class's table: the words of it -/
def zF (own ref : String) (index ci k N : Nat) (Cn : String) (T : u_T) : Prop := (∀ w ∈ u_ws Cn T N, w ∈ lw_all) ∧ vwCl[ci]? = some (Cn, T, N) ∧ k < N ∧ Cond.fieldLink own index ref (T k).2.1 (T k).2.2.1 ∈ lw_all ∧ (T k).1 = ref
/-- what a class's table must be for its fields to be written -/
def zT (N : Nat) (T : u_T) (ty : Nat → FieldType) : Prop := (∀ k, k < N → parseFieldDescriptor (T k).2.2.1 = some (ty k)) ∧ ∀ a, a < N → ∀ b, b < N → a ≠ b → (T a).2.1 ≠ (T b).2.1
/-- a method that is called on an object; statically; a constructor -/
def zV (y : MethodName) (bytes : ByteArray) (maxL : Nat) (ret : Option FieldType) (n : Nat) : Prop := Cond.instanceMethod y ∈ lw_all ∧ Cond.selects y.cls y y ∈ lw_all ∧ Cond.initialized y.cls ∈ lw_all ∧ Cond.code y bytes maxL ret ∈ lw_all ∧ y.cls ≠ "java/lang/invoke/MethodHandle" ∧ y.cls ≠ "java/lang/invoke/VarHandle" ∧ (parseMethodDescriptor y.desc).map (fun d => d.parameters.length) = some n
def zSt (y : MethodName) (bytes : ByteArray) (maxL : Nat) (ret : Option FieldType) (n : Nat) : Prop := Cond.static y ∈ lw_all ∧ Cond.initialized y.cls ∈ lw_all ∧ Cond.code y bytes maxL ret ∈ lw_all ∧ y.cls ≠ "java/lang/invoke/MethodHandle" ∧ y.cls ≠ "java/lang/invoke/VarHandle" ∧ (parseMethodDescriptor y.desc).map (fun d => d.parameters.length) = some n
def zI (y : MethodName) (bytes : ByteArray) (maxL : Nat) (n : Nat) : Prop := Cond.instanceMethod y ∈ lw_all ∧ y.name = "<init>" ∧ Cond.initialized y.cls ∈ lw_all ∧ Cond.code y bytes maxL none ∈ lw_all ∧ y.cls ≠ "java/lang/invoke/MethodHandle" ∧ y.cls ≠ "java/lang/invoke/VarHandle" ∧ (parseMethodDescriptor y.desc).map (fun d => d.parameters.length) = some n
section ZR
variable {s0 : State} {p : Program} {l : Launch} {e : Env} {R : Room} {s : State} {m : MethodId} {args : Array Value} {below : List Frame} {meth : Method} {c : Code} {H : Heap} {locs : List Loc} {cells slots : Nat} {Q : State → Prop}
variable {D : va_G} {tys : List (ClassId × FieldType)} {cc : ByteArray} {own : String} {rt : Option FieldType} {nL : Nat} {pc : Nat} {ls : Array Slot} {rest : List Value} {ws : va_W} {A : Nat → Prop} {a : Nat} {mc ms : Nat}
-- ends
theorem zR_iret {S : Type} {rv : S → Option Value} {post : S → Prop} {v : Int32} (C : zC D tys p s m args meth c cc own (some .int) nL) (u : S) (hv : rv u = some (.int v)) (hp : post u) (hdg : decode cc pc = .ok (.ireturn, 1)) :
    W p l e R s m args below meth c s.heap [] 0 0 (MQ below (zQr rv post) args s 0 0 (fun _ => False)) (F0 m pc ls [.int v]) :=
  W.iret C.1 C.2.1 C.2.2.2.2.1 (fun t ht _ => ⟨u, by rw [hv], hp, ht⟩) (fun q hq => absurd hq List.not_mem_nil) hdg C.2.2.2.2.2.2.1
theorem zR_zret {S : Type} {rv : S → Option Value} {post : S → Prop} {v : Int32} {ty : FieldType} (C : zC D tys p s m args meth c cc own (some ty) nL) (hn : narrow ty (.int v) = .int v) (u : S) (hv : rv u = some (.int v)) (hp : post u) (hdg : decode cc pc = .ok (.ireturn, 1)) :
    W p l e R s m args below meth c s.heap [] 0 0 (MQ below (zQr rv post) args s 0 0 (fun _ => False)) (F0 m pc ls [.int v]) :=
  W.zret C.1 C.2.1 C.2.2.2.2.1 hn (fun t ht _ => ⟨u, by rw [hv], hp, ht⟩) (fun q hq => absurd hq List.not_mem_nil) hdg C.2.2.2.2.2.2.1
theorem zR_vret {S : Type} {rv : S → Option Value} {post : S → Prop} (C : zC D tys p s m args meth c cc own none nL) (u : S) (hv : rv u = none) (hp : post u) (hdg : decode cc pc = .ok (.return_, 1)) :
    W p l e R s m args below meth c s.heap [] 0 0 (MQ below (zQr rv post) args s 0 0 (fun _ => False)) (F0 m pc ls []) :=
  W.vret C.1 C.2.1 C.2.2.2.2.1 (fun t ht _ => ⟨u, by rw [hv], hp, ht⟩) (fun q hq => absurd hq List.not_mem_nil) hdg C.2.2.2.2.2.2.1
theorem zR_dret {S : Type} {rv : S → Option Value} {post : S → Prop} {v : UInt64} (C : zC D tys p s m args meth c cc own (some .double) nL) (u : S) (hv : rv u = some (.double v)) (hp : post u) (hdg : decode cc pc = .ok (.dreturn, 1)) :
    W p l e R s m args below meth c s.heap [] 0 0 (MQ below (zQr rv post) args s 0 0 (fun _ => False)) (F0 m pc ls [.double v]) :=
  W.dret C.1 C.2.1 C.2.2.2.2.1 (fun t ht _ => ⟨u, by rw [hv], hp, ht⟩) (fun q hq => absurd hq List.not_mem_nil) hdg C.2.2.2.2.2.2.1
theorem zW_iret {S : Type} {rv : S → Option Value} {post : S → Prop} {w1 : S → va_W} {v : Int32} (C : zC D tys p s m args meth c cc own (some .int) nL) (u : S) (hv : rv u = some (.int v)) (hp : post u) (hP : va_P D vwCl (w1 u) H) (hD : va_D A (w1 u)) (hS : va_S A s.heap H locs) (hc : cells ≤ mc) (hs : slots ≤ ms) (hdg : decode cc pc = .ok (.ireturn, 1)) :
    W p l e R s m args below meth c H locs cells slots (MQ below (zQ D rv post w1 A) args s mc ms A) (F0 m pc ls [.int v]) :=
  W.widen hc hs (W.iret C.1 C.2.1 C.2.2.2.2.1 (fun t ht _ => ⟨⟨u, by rw [hv], hp, by rw [ht]; exact hP, hD⟩, hS.F ht⟩) hS.2.2 hdg C.2.2.2.2.2.2.1)
theorem zW_zret {S : Type} {rv : S → Option Value} {post : S → Prop} {w1 : S → va_W} {v : Int32} {ty : FieldType} (C : zC D tys p s m args meth c cc own (some ty) nL) (hn : narrow ty (.int v) = .int v) (u : S) (hv : rv u = some (.int v)) (hp : post u) (hP : va_P D vwCl (w1 u) H) (hD : va_D A (w1 u)) (hS : va_S A s.heap H locs) (hc : cells ≤ mc) (hs : slots ≤ ms) (hdg : decode cc pc = .ok (.ireturn, 1)) :
    W p l e R s m args below meth c H locs cells slots (MQ below (zQ D rv post w1 A) args s mc ms A) (F0 m pc ls [.int v]) :=
  W.widen hc hs (W.zret C.1 C.2.1 C.2.2.2.2.1 hn (fun t ht _ => ⟨⟨u, by rw [hv], hp, by rw [ht]; exact hP, hD⟩, hS.F ht⟩) hS.2.2 hdg C.2.2.2.2.2.2.1)
theorem zW_vret {S : Type} {rv : S → Option Value} {post : S → Prop} {w1 : S → va_W} (C : zC D tys p s m args meth c cc own none nL) (u : S) (hv : rv u = none) (hp : post u) (hP : va_P D vwCl (w1 u) H) (hD : va_D A (w1 u)) (hS : va_S A s.heap H locs) (hc : cells ≤ mc) (hs : slots ≤ ms) (hdg : decode cc pc = .ok (.return_, 1)) :
    W p l e R s m args below meth c H locs cells slots (MQ below (zQ D rv post w1 A) args s mc ms A) (F0 m pc ls []) :=
  W.widen hc hs (W.vret C.1 C.2.1 C.2.2.2.2.1 (fun t ht _ => ⟨⟨u, by rw [hv], hp, by rw [ht]; exact hP, hD⟩, hS.F ht⟩) hS.2.2 hdg C.2.2.2.2.2.2.1)
theorem zW_lret {S : Type} {rv : S → Option Value} {post : S → Prop} {w1 : S → va_W} {v : Int64} (C : zC D tys p s m args meth c cc own (some .long) nL) (u : S) (hv : rv u = some (.long v)) (hp : post u) (hP : va_P D vwCl (w1 u) H) (hD : va_D A (w1 u)) (hS : va_S A s.heap H locs) (hc : cells ≤ mc) (hs : slots ≤ ms) (hdg : decode cc pc = .ok (.lreturn, 1)) :
    W p l e R s m args below meth c H locs cells slots (MQ below (zQ D rv post w1 A) args s mc ms A) (F0 m pc ls [.long v]) :=
  W.widen hc hs (W.lret C.1 C.2.1 C.2.2.2.2.1 (fun t ht _ => ⟨⟨u, by rw [hv], hp, by rw [ht]; exact hP, hD⟩, hS.F ht⟩) hS.2.2 hdg C.2.2.2.2.2.2.1)
theorem zW_dret {S : Type} {rv : S → Option Value} {post : S → Prop} {w1 : S → va_W} {v : UInt64} (C : zC D tys p s m args meth c cc own (some .double) nL) (u : S) (hv : rv u = some (.double v)) (hp : post u) (hP : va_P D vwCl (w1 u) H) (hD : va_D A (w1 u)) (hS : va_S A s.heap H locs) (hc : cells ≤ mc) (hs : slots ≤ ms) (hdg : decode cc pc = .ok (.dreturn, 1)) :
    W p l e R s m args below meth c H locs cells slots (MQ below (zQ D rv post w1 A) args s mc ms A) (F0 m pc ls [.double v]) :=
  W.widen hc hs (W.dret C.1 C.2.1 C.2.2.2.2.1 (fun t ht _ => ⟨⟨u, by rw [hv], hp, by rw [ht]; exact hP, hD⟩, hS.F ht⟩) hS.2.2 hdg C.2.2.2.2.2.2.1)
theorem zW_aret {S : Type} {rv : S → Option Value} {post : S → Prop} {w1 : S → va_W} {v : Addr} {ty : FieldType} (C : zC D tys p s m args meth c cc own (some ty) nL) (hty : (∃ n, ty = .object n) ∨ ∃ t, ty = .array t) (u : S) (hv : rv u = some (.ref v)) (hp : post u) (hP : va_P D vwCl (w1 u) H) (hD : va_D A (w1 u)) (hS : va_S A s.heap H locs) (hc : cells ≤ mc) (hs : slots ≤ ms) (hdg : decode cc pc = .ok (.areturn, 1)) :
    W p l e R s m args below meth c H locs cells slots (MQ below (zQ D rv post w1 A) args s mc ms A) (F0 m pc ls [.ref v]) :=
  W.widen hc hs (W.aret C.1 C.2.1 C.2.2.2.2.1 hty (Or.inr ⟨_, rfl⟩) (fun t ht _ => ⟨⟨u, by rw [hv], hp, by rw [ht]; exact hP, hD⟩, hS.F ht⟩) hS.2.2 hdg C.2.2.2.2.2.2.1)
-- fields
theorem z_get {ref Cn : String} {T : u_T} {N ci index k q0 : Nat} {fs : List Value} {v : Value} (C : zC D tys p s m args meth c cc own rt nL) (F : zF own ref index ci k N Cn T) (hP : va_P D vwCl ws H) (he : ws[q0]? = some (a, .inr (ci, fs))) (hv : fs[k]? = some v) (hdg : decode cc pc = .ok (.getfield index, 3))
    (kk : W p l e R s m args below meth c H locs cells slots Q (F0 m (pc + 3) ls (v :: rest))) : W p l e R s m args below meth c H locs cells slots Q (F0 m pc ls (.ref a :: rest)) :=
  va_get C.1 C.2.1 C.2.2.1 F.1 C.2.2.2.1 C.2.2.2.2.2.2.2 hP q0 he F.2.1 k F.2.2.1 (C.2.2.1 _ F.2.2.2.1) (by rw [F.2.2.2.2]; exact fun _ h => h) hv hdg kk
theorem z_put {ref Cn : String} {T : u_T} {N ci index k q0 : Nat} {fs : List Value} {v : Value} {ty0 : Nat → FieldType} {ty : FieldType} (C : zC D tys p s m args meth c cc own rt nL) (F : zF own ref index ci k N Cn T) (Z : zT N T ty0) (hfin : (T k).2.2.2 = false) (hd : ty0 k = ty) (hn : narrow ty v = v) (hfit : fits ty v = true) (hP : va_P D vwCl ws H) (hD : va_D A ws) (hS : va_S A s.heap H locs) (he : ws[q0]? = some (a, .inr (ci, fs))) (hl : k < fs.length) (hdg : decode cc pc = .ok (.putfield index, 3))
    (kk : ∀ (H1 : Heap) (locs1 : List Loc), va_P D vwCl (ws.set q0 (a, .inr (ci, fs.set k v))) H1 → va_D A (ws.set q0 (a, .inr (ci, fs.set k v))) → va_S A s.heap H1 locs1 → W p l e R s m args below meth c H1 locs1 cells slots Q (F0 m (pc + 3) ls rest)) : W p l e R s m args below meth c H locs cells slots Q (F0 m pc ls (v :: .ref a :: rest)) :=
  va_put C.1 C.2.1 C.2.2.1 F.1 ty0 Z.1 Z.2 C.2.2.2.1 C.2.2.2.2.2.2.2 hP hD hS q0 he F.2.1 k F.2.2.1 (C.2.2.1 _ F.2.2.2.1) (by rw [F.2.2.2.2]; exact fun _ h => h) hfin (by rw [Z.1 k F.2.2.1, hd]) hn hfit hl hdg kk
theorem z_putF {ref Cn : String} {T : u_T} {N ci index k q0 : Nat} {fs : List Value} {v : Value} {ty0 : Nat → FieldType} {ty : FieldType} (C : zC D tys p s m args meth c cc own rt nL) (F : zF own ref index ci k N Cn T) (Z : zT N T ty0) (hin : meth.name = "<init>") (hown : ref = own) (hfin : (T k).2.2.2 = true) (hd : ty0 k = ty) (hn : narrow ty v = v) (hfit : fits ty v = true) (hP : va_P D vwCl ws H) (hD : va_D A ws) (hS : va_S A s.heap H locs) (he : ws[q0]? = some (a, .inr (ci, fs))) (hl : k < fs.length) (hdg : decode cc pc = .ok (.putfield index, 3))
    (kk : ∀ (H1 : Heap) (locs1 : List Loc), va_P D vwCl (ws.set q0 (a, .inr (ci, fs.set k v))) H1 → va_D A (ws.set q0 (a, .inr (ci, fs.set k v))) → va_S A s.heap H1 locs1 → W p l e R s m args below meth c H1 locs1 cells slots Q (F0 m (pc + 3) ls rest)) : W p l e R s m args below meth c H locs cells slots Q (F0 m pc ls (v :: .ref a :: rest)) :=
  va_putF C.1 C.2.1 C.2.2.1 F.1 ty0 Z.1 Z.2 C.2.2.2.1 C.2.2.2.2.2.2.2 hP hD hS q0 he F.2.1 k F.2.2.1 (C.2.2.1 _ F.2.2.2.1) (by rw [F.2.2.2.2]; exact fun _ h => h) hfin hin (by rw [F.2.2.2.2, hown]) (by rw [Z.1 k F.2.2.1, hd]) hn hfit hl hdg kk
-- what a call needs of the words
theorem z_cb {k maxL n index : Nat} {y : MethodName} {bytes : ByteArray} {ret : Option FieldType} (C : zC D tys p s m args meth c cc own rt nL) (hl : Cond.methodLink own index y ∈ lw_all) (hi : Cond.initialized y.cls ∈ lw_all) (hc : Cond.code y bytes maxL ret ∈ lw_all) (hd : y.cls ≠ "java/lang/invoke/MethodHandle" ∧ y.cls ≠ "java/lang/invoke/VarHandle" ∧ (parseMethodDescriptor y.desc).map (fun d => d.parameters.length) = some n) (hR : k + 1 ≤ R.frames ∧ 8 + (maxL + 11) + 40 * k ≤ R.locals) :
    CallB R s args own index y bytes maxL ret (ws_ y bytes maxL ret) (zr k mc ms) mc ms n :=
  callB_of n C.2.2.1 (ws_good hc) rfl rfl rfl (C.2.2.1 _ hi) (C.2.2.1 _ hl) hd hR
theorem z_cf (C : zC D tys p s m args meth c cc own rt nL) : CallFix p m c cc nL s args lw_all own := ⟨C.1, C.2.1, C.2.2.2.2.2.1, C.2.2.2.1, C.2.2.1⟩
theorem z_pr {al : List Value} {wc : va_W} {isC : List Nat} (C : zC D tys p s m args meth c cc own rt nL) (hG : zG s0 (fun _ => False) s H) (hP : va_P D vwCl ws H) (hC : isC.map (fun i => ws[i]?) = wc.map some) : ∀ U : State, U.heap = H → s.WarmedH U.vm → zPr s0 D tys al wc al.toArray U :=
  fun U hU hW => ⟨rfl, by rw [hU]; exact hP.sub isC (z_fm _ _ hC), va_K.moved hW.alike C.2.2.2.2.2.2.2, by rw [hU]; exact hG.warm hW⟩
theorem z_pw {al : List Value} {wc : va_W} {isC : List Nat} (C : zC D tys p s m args meth c cc own rt nL) (hG : zG s0 A s s.heap) (hA : ∀ q : Nat, s.heap.size ≤ q → A q) (hP : va_P D vwCl ws H) (hD : va_D A ws) (hS : va_S A s.heap H locs) (hC : isC.map (fun i => ws[i]?) = wc.map some) (hnC : va_nd isC = true) : ∀ U : State, U.heap = H → s.WarmedH U.vm → zPw s0 D tys al wc H.size al.toArray U :=
  fun U hU hW => ⟨rfl, by rw [hU], by rw [hU]; exact hP.sub isC (z_fm _ _ hC), va_K.moved hW.alike C.2.2.2.2.2.2.2, (hD.sub isC hnC hC).weaken (fun _ _ _ _ => trivial), by
    rw [hU]; exact ((hG.kept hS.1 hS.2.1).narrow (va_free hD hS hA isC hC)).warm hW⟩
-- calls of what reads alone: the heap stays
theorem z_endR {S : Type} {rv : S → Option Value} {post : S → Prop} {aa : Array Value} {st0 : List Value} (hr : va_Run p l e R s m args below meth c H locs cells slots 0 0 (F0 m pc ls st0) rest (zQr rv post aa) (fun _ => False))
    (kk : ∀ u : S, post u → W p l e R s m args below meth c H locs cells slots Q (F0 m (pc + 3) ls ((rv u).toList ++ rest))) : W p l e R s m args below meth c H locs cells slots Q (F0 m pc ls st0) := by
  intro T hT X
  obtain ⟨v, st₀, t, T', L, h0, X', hL, e1, e2, ⟨u, hv, hp, hh⟩, st⟩ := hr T hT X
  cases hv
  obtain ⟨t2, a1, b1⟩ := kk u hp T' (by rw [e1, hh, h0]) (Stand.forget X' (fun q h => (hL q h).elim))
  exact ⟨t2, st t2 a1, b1⟩
theorem z_RV {S : Type} {rv : S → Option Value} {post : S → Prop} {y : MethodName} {bytes : ByteArray} {maxL n k index ci : Nat} {ret : Option FieldType} {b : Nat} {As st0 : List Value} {wc : va_W} {fs : List Value} {T : u_T} {N : Nat} (isC : List Nat) (C : zC D tys p s m args meth c cc own rt nL) (hG : zG s0 (fun _ => False) s H) (hP : va_P D vwCl ws H)
    (hM : zR s0 l D tys y bytes maxL ret k (.ref b :: As) wc rv post) (hl : Cond.methodLink own index y ∈ lw_all) (F : zV y bytes maxL ret n) (hC : isC.map (fun i => ws[i]?) = wc.map some) (he : wc[0]? = some (b, .inr (ci, fs))) (hcl : vwCl[ci]? = some (y.cls, T, N)) (hn : As.length = n) (hR : k + 1 ≤ R.frames ∧ 8 + (maxL + 11) + 40 * k ≤ R.locals) (hf : cells ≤ R.cells ∧ slots ≤ R.slots)
    (hsz : ls.size = nL) (hst : st0 = As.reverse ++ .ref b :: rest) (hW : 2 * (F0 m pc ls rest).monitorRoom + (rest.map fun v => v.category).sum ≤ 8) (hdg : decode cc pc = .ok (.invokevirtual index, 3))
    (kk : ∀ u : S, post u → W p l e R s m args below meth c H locs cells slots Q (F0 m (pc + 3) ls ((rv u).toList ++ rest))) : W p l e R s m args below meth c H locs cells slots Q (F0 m pc ls st0) := by
  obtain ⟨f1, f2, f3, f4, f5⟩ := F
  exact z_endR (va_runV (z_cf C) hM ⟨z_cb C hl f3 f4 f5 hR, C.2.2.1 _ f1, C.2.2.1 _ f2⟩ ⟨zPr_blind, va_recv C.2.2.2.2.2.2.2 (hP.sub isC (z_fm _ _ hC)) hcl he, z_pr C hG hP hC⟩ rfl hn hsz hst hW hdg hf) kk
theorem z_RS {S : Type} {rv : S → Option Value} {post : S → Prop} {y : MethodName} {bytes : ByteArray} {maxL n k index : Nat} {ret : Option FieldType} {As st0 : List Value} {wc : va_W} (isC : List Nat) (C : zC D tys p s m args meth c cc own rt nL) (hG : zG s0 (fun _ => False) s H) (hP : va_P D vwCl ws H)
    (hM : zR s0 l D tys y bytes maxL ret k As wc rv post) (hl : Cond.methodLink own index y ∈ lw_all) (F : zSt y bytes maxL ret n) (hC : isC.map (fun i => ws[i]?) = wc.map some) (hn : As.length = n) (hR : k + 1 ≤ R.frames ∧ 8 + (maxL + 11) + 40 * k ≤ R.locals) (hf : cells ≤ R.cells ∧ slots ≤ R.slots)
    (hsz : ls.size = nL) (hst : st0 = As.reverse ++ rest) (hW : 2 * (F0 m pc ls rest).monitorRoom + (rest.map fun v => v.category).sum ≤ 8) (hdg : decode cc pc = .ok (.invokestatic index, 3))
    (kk : ∀ u : S, post u → W p l e R s m args below meth c H locs cells slots Q (F0 m (pc + 3) ls ((rv u).toList ++ rest))) : W p l e R s m args below meth c H locs cells slots Q (F0 m pc ls st0) := by
  obtain ⟨f1, f3, f4, f5⟩ := F
  exact z_endR (va_runS (z_cf C) hM ⟨z_cb C hl f3 f4 f5 hR, C.2.2.1 _ f1⟩ ⟨zPr_blind, z_pr C hG hP hC⟩ rfl hn hsz hst hW hdg hf) kk
-- calls of what writes: the callee's cells are cut out and put back
theorem z_endW {S : Type} {rv : S → Option Value} {post : S → Prop} {w1 wN : S → va_W} {wc wr : va_W} {aa : Array Value} {st0 : List Value} (isC isR perm : List Nat) (hA : ∀ q : Nat, s.heap.size ≤ q → A q) (hP : va_P D vwCl ws H) (hD : va_D A ws) (hS : va_S A s.heap H locs)
    (hC : isC.map (fun i => ws[i]?) = wc.map some) (hR : isR.map (fun i => ws[i]?) = wr.map some) (hn : va_nd isR = true) (hdis : ∀ i ∈ isR, i ∉ isC) (hperm : ∀ u, perm.map (fun i => (wr ++ w1 u)[i]?) = (wN u).map some) (hnp : va_nd perm = true)
    (hr : va_Run p l e R s m args below meth c H locs cells slots mc ms (F0 m pc ls st0) rest (zQ D rv post w1 (va_A wc H.size) aa) (va_A wc H.size))
    (kk : ∀ (u : S) (H1 : Heap) (locs1 : List Loc), post u → va_P D vwCl (wN u) H1 → va_D A (wN u) → va_S A s.heap H1 locs1 → W p l e R s m args below meth c H1 locs1 (cells + mc) (slots + ms) Q (F0 m (pc + 3) ls ((rv u).toList ++ rest))) : W p l e R s m args below meth c H locs cells slots Q (F0 m pc ls st0) := by
  intro T hT X
  obtain ⟨v, st₀, t, T', L, h0, X', hL, e1, e2, ⟨⟨u, hv, hp, hP1, hD1⟩, hF⟩, st⟩ := hr T hT X
  cases hv
  have hFc := va_free (wc := wc) hD hS hA isC hC
  obtain ⟨k1, k2, k3⟩ := vx_keep h0 e1 hS (fun q _ h => hFc q h) hFc hL hF
  rw [← e1] at hP1
  obtain ⟨hP2, hD2⟩ := va_join hP hD isC isR hC hR hn hdis k2 hFc hP1 hD1
  obtain ⟨t2, a1, b1⟩ := kk u T'.heap (locs ++ L) hp (hP2.sub perm (z_fm _ _ (hperm u))) (hD2.sub perm hnp (hperm u)) k3 T' rfl X'
  exact ⟨t2, st t2 a1, b1⟩
theorem z_WV {S : Type} {rv : S → Option Value} {post : S → Prop} {w1 wN : S → va_W} {wc wr : va_W} {y : MethodName} {bytes : ByteArray} {maxL n k index ci : Nat} {ret : Option FieldType} {b : Nat} {As st0 : List Value} {fs : List Value} {T : u_T} {N : Nat} (isC isR perm : List Nat) (C : zC D tys p s m args meth c cc own rt nL) (hG : zG s0 A s s.heap) (hA : ∀ q : Nat, s.heap.size ≤ q → A q) (hP : va_P D vwCl ws H) (hD : va_D A ws) (hS : va_S A s.heap H locs)
    (hM : zW s0 l D tys y bytes maxL ret k mc ms (.ref b :: As) wc rv post w1) (hl : Cond.methodLink own index y ∈ lw_all) (F : zV y bytes maxL ret n)
    (hC : isC.map (fun i => ws[i]?) = wc.map some) (hRr : isR.map (fun i => ws[i]?) = wr.map some) (hnn : va_nd isC = true ∧ va_nd isR = true ∧ va_nd perm = true) (hdis : ∀ i ∈ isR, i ∉ isC) (hperm : ∀ u, perm.map (fun i => (wr ++ w1 u)[i]?) = (wN u).map some)
    (he : wc[0]? = some (b, .inr (ci, fs))) (hcl : vwCl[ci]? = some (y.cls, T, N)) (hn : As.length = n) (hR : k + 1 ≤ R.frames ∧ 8 + (maxL + 11) + 40 * k ≤ R.locals) (hf : cells + mc ≤ R.cells ∧ slots + ms ≤ R.slots)
    (hsz : ls.size = nL) (hst : st0 = As.reverse ++ .ref b :: rest) (hW : 2 * (F0 m pc ls rest).monitorRoom + (rest.map fun v => v.category).sum ≤ 8) (hdg : decode cc pc = .ok (.invokevirtual index, 3))
    (kk : ∀ (u : S) (H1 : Heap) (locs1 : List Loc), post u → va_P D vwCl (wN u) H1 → va_D A (wN u) → va_S A s.heap H1 locs1 → W p l e R s m args below meth c H1 locs1 (cells + mc) (slots + ms) Q (F0 m (pc + 3) ls ((rv u).toList ++ rest))) : W p l e R s m args below meth c H locs cells slots Q (F0 m pc ls st0) := by
  obtain ⟨f1, f2, f3, f4, f5⟩ := F
  exact z_endW isC isR perm hA hP hD hS hC hRr hnn.2.1 hdis hperm hnn.2.2 (va_runV (z_cf C) (hM H.size) ⟨z_cb C hl f3 f4 f5 hR, C.2.2.1 _ f1, C.2.2.1 _ f2⟩ ⟨zPw_blind, va_recv C.2.2.2.2.2.2.2 (hP.sub isC (z_fm _ _ hC)) hcl he, z_pw C hG hA hP hD hS hC hnn.1⟩ rfl hn hsz hst hW hdg hf) kk
theorem z_WS {S : Type} {rv : S → Option Value} {post : S → Prop} {w1 wN : S → va_W} {wc wr : va_W} {y : MethodName} {bytes : ByteArray} {maxL n k index : Nat} {ret : Option FieldType} {As st0 : List Value} (isC isR perm : List Nat) (C : zC D tys p s m args meth c cc own rt nL) (hG : zG s0 A s s.heap) (hA : ∀ q : Nat, s.heap.size ≤ q → A q) (hP : va_P D vwCl ws H) (hD : va_D A ws) (hS : va_S A s.heap H locs)
    (hM : zW s0 l D tys y bytes maxL ret k mc ms As wc rv post w1) (hl : Cond.methodLink own index y ∈ lw_all) (F : zSt y bytes maxL ret n)
    (hC : isC.map (fun i => ws[i]?) = wc.map some) (hRr : isR.map (fun i => ws[i]?) = wr.map some) (hnn : va_nd isC = true ∧ va_nd isR = true ∧ va_nd perm = true) (hdis : ∀ i ∈ isR, i ∉ isC) (hperm : ∀ u, perm.map (fun i => (wr ++ w1 u)[i]?) = (wN u).map some)
    (hn : As.length = n) (hR : k + 1 ≤ R.frames ∧ 8 + (maxL + 11) + 40 * k ≤ R.locals) (hf : cells + mc ≤ R.cells ∧ slots + ms ≤ R.slots)
    (hsz : ls.size = nL) (hst : st0 = As.reverse ++ rest) (hW : 2 * (F0 m pc ls rest).monitorRoom + (rest.map fun v => v.category).sum ≤ 8) (hdg : decode cc pc = .ok (.invokestatic index, 3))
    (kk : ∀ (u : S) (H1 : Heap) (locs1 : List Loc), post u → va_P D vwCl (wN u) H1 → va_D A (wN u) → va_S A s.heap H1 locs1 → W p l e R s m args below meth c H1 locs1 (cells + mc) (slots + ms) Q (F0 m (pc + 3) ls ((rv u).toList ++ rest))) : W p l e R s m args below meth c H locs cells slots Q (F0 m pc ls st0) := by
  obtain ⟨f1, f3, f4, f5⟩ := F
  exact z_endW isC isR perm hA hP hD hS hC hRr hnn.2.1 hdis hperm hnn.2.2 (va_runS (z_cf C) (hM H.size) ⟨z_cb C hl f3 f4 f5 hR, C.2.2.1 _ f1⟩ ⟨zPw_blind, z_pw C hG hA hP hD hS hC hnn.1⟩ rfl hn hsz hst hW hdg hf) kk
theorem z_WI {S : Type} {rv : S → Option Value} {post : S → Prop} {w1 wN : S → va_W} {wc wr : va_W} {y : MethodName} {bytes : ByteArray} {maxL n k index : Nat} {b : Nat} {As st0 : List Value} (isC isR perm : List Nat) (C : zC D tys p s m args meth c cc own rt nL) (hG : zG s0 A s s.heap) (hA : ∀ q : Nat, s.heap.size ≤ q → A q) (hP : va_P D vwCl ws H) (hD : va_D A ws) (hS : va_S A s.heap H locs)
    (hM : zW s0 l D tys y bytes maxL none k mc ms (.ref b :: As) wc rv post w1) (hl : Cond.methodLink own index y ∈ lw_all) (F : zI y bytes maxL n)
    (hC : isC.map (fun i => ws[i]?) = wc.map some) (hRr : isR.map (fun i => ws[i]?) = wr.map some) (hnn : va_nd isC = true ∧ va_nd isR = true ∧ va_nd perm = true) (hdis : ∀ i ∈ isR, i ∉ isC) (hperm : ∀ u, perm.map (fun i => (wr ++ w1 u)[i]?) = (wN u).map some)
    (hn : As.length = n) (hR : k + 1 ≤ R.frames ∧ 8 + (maxL + 11) + 40 * k ≤ R.locals) (hf : cells + mc ≤ R.cells ∧ slots + ms ≤ R.slots)
    (hsz : ls.size = nL) (hst : st0 = As.reverse ++ .ref b :: rest) (hW : 2 * (F0 m pc ls rest).monitorRoom + (rest.map fun v => v.category).sum ≤ 8) (hdg : decode cc pc = .ok (.invokespecial index, 3))
    (kk : ∀ (u : S) (H1 : Heap) (locs1 : List Loc), post u → va_P D vwCl (wN u) H1 → va_D A (wN u) → va_S A s.heap H1 locs1 → W p l e R s m args below meth c H1 locs1 (cells + mc) (slots + ms) Q (F0 m (pc + 3) ls ((rv u).toList ++ rest))) : W p l e R s m args below meth c H locs cells slots Q (F0 m pc ls st0) := by
  obtain ⟨f1, f2, f3, f4, f5⟩ := F
  exact z_endW isC isR perm hA hP hD hS hC hRr hnn.2.1 hdis hperm hnn.2.2 (va_runI (z_cf C) (hM H.size) ⟨z_cb C hl f3 f4 f5 hR, f2, C.2.2.1 _ f1⟩ ⟨zPw_blind, z_pw C hG hA hP hD hS hC hnn.1⟩ rfl hn hsz hst hW hdg hf) kk
-- calls of what may throw
theorem z_endX {S : Type} {rv : S → Option Value} {post : S → Prop} {px : String → Prop} {w1 wN : S → va_W} {wc wr : va_W} {aa : Array Value} {st0 : List Value} (isC isR perm perm0 : List Nat) (hA : ∀ q : Nat, s.heap.size ≤ q → A q) (hP : va_P D vwCl ws H) (hD : va_D A ws) (hS : va_S A s.heap H locs)
    (hC : isC.map (fun i => ws[i]?) = wc.map some) (hnC : va_nd isC = true) (hR : isR.map (fun i => ws[i]?) = wr.map some) (hn : va_nd isR = true) (hdis : ∀ i ∈ isR, i ∉ isC) (hperm : ∀ u, perm.map (fun i => (wr ++ w1 u)[i]?) = (wN u).map some) (hnp : va_nd perm = true) (hperm0 : perm0.map (fun i => (wr ++ wc)[i]?) = ws.map some)
    (hr : vx_Run p l e R s m args below meth c H locs cells slots mc ms (F0 m pc ls st0) rest (zQ D rv post w1 (va_A wc H.size) aa) (zXC D px wc (va_A wc H.size)) (va_A wc H.size))
    (kx : ∀ (E : String) (ce : Cell) (q9 : Addr) (H1 : Heap) (locs1 : List Loc), px E → va_P D vwCl ws H1 → va_S A s.heap H1 locs1 → H1[q9]? = some ce → ce.vm = .none → s.vm.findClass E = some ce.cls → vx_W p l e R s m args below meth c H1 locs1 (cells + mc) (slots + ms) Q (F0 m pc ls rest) q9)
    (kk : ∀ (u : S) (H1 : Heap) (locs1 : List Loc), post u → va_P D vwCl (wN u) H1 → va_D A (wN u) → va_S A s.heap H1 locs1 → W p l e R s m args below meth c H1 locs1 (cells + mc) (slots + ms) Q (F0 m (pc + 3) ls ((rv u).toList ++ rest))) : W p l e R s m args below meth c H locs cells slots Q (F0 m pc ls st0) := by
  intro T hT X
  have hFc := va_free (wc := wc) hD hS hA isC hC
  rcases hr T hT X with ⟨v, st₀, t, T', L, h0, X', hL, e1, e2, ⟨⟨u, hv, hp, hP1, hD1⟩, hF⟩, st⟩ | ⟨q, st₀, t, T', L, E, ce, h0, X', hL, e1, e2, ⟨hp, hP1, hF⟩, hce, hcv, hcl, st⟩
  · cases hv
    obtain ⟨k1, k2, k3⟩ := vx_keep h0 e1 hS (fun q _ h => hFc q h) hFc hL hF
    rw [← e1] at hP1
    obtain ⟨hP2, hD2⟩ := va_join hP hD isC isR hC hR hn hdis k2 hFc hP1 hD1
    obtain ⟨t2, a1, b1⟩ := kk u T'.heap (locs ++ L) hp (hP2.sub perm (z_fm _ _ (hperm u))) (hD2.sub perm hnp (hperm u)) k3 T' rfl X'
    exact ⟨t2, st t2 a1, b1⟩
  · obtain ⟨k1, k2, k3⟩ := vx_keep h0 e1 hS (fun q _ h => hFc q h) hFc hL hF
    rw [← e1] at hP1
    obtain ⟨hP2, hD2⟩ := va_join hP hD isC isR hC hR hn hdis k2 hFc hP1 ((hD.sub isC hnC hC).self (sz := H.size))
    obtain ⟨t2, a1, b1⟩ := kx E ce q T'.heap (locs ++ L) hp (hP2.sub perm0 (z_fm _ _ hperm0)) k3 (by rw [e1]; exact hce) hcv hcl T' rfl X'
    exact ⟨t2, st.trans a1, b1⟩
theorem z_XV {S : Type} {rv : S → Option Value} {post : S → Prop} {px : String → Prop} {w1 wN : S → va_W} {wc wr : va_W} {y : MethodName} {bytes : ByteArray} {maxL n k index ci : Nat} {ret : Option FieldType} {b : Nat} {As st0 : List Value} {fs : List Value} {T : u_T} {N : Nat} (isC isR perm perm0 : List Nat) (C : zC D tys p s m args meth c cc own rt nL) (hG : zG s0 A s s.heap) (hA : ∀ q : Nat, s.heap.size ≤ q → A q) (hP : va_P D vwCl ws H) (hD : va_D A ws) (hS : va_S A s.heap H locs)
    (hM : zX s0 l D tys y bytes maxL ret k mc ms (.ref b :: As) wc rv post w1 px) (hl : Cond.methodLink own index y ∈ lw_all) (F : zV y bytes maxL ret n)
    (hC : isC.map (fun i => ws[i]?) = wc.map some) (hRr : isR.map (fun i => ws[i]?) = wr.map some) (hnn : va_nd isC = true ∧ va_nd isR = true ∧ va_nd perm = true) (hdis : ∀ i ∈ isR, i ∉ isC) (hperm : ∀ u, perm.map (fun i => (wr ++ w1 u)[i]?) = (wN u).map some) (hperm0 : perm0.map (fun i => (wr ++ wc)[i]?) = ws.map some)
    (he : wc[0]? = some (b, .inr (ci, fs))) (hcl : vwCl[ci]? = some (y.cls, T, N)) (hn : As.length = n) (hR : k + 1 ≤ R.frames ∧ 8 + (maxL + 11) + 40 * k ≤ R.locals) (hf : cells + mc ≤ R.cells ∧ slots + ms ≤ R.slots)
    (hsz : ls.size = nL) (hst : st0 = As.reverse ++ .ref b :: rest) (hW : 2 * (F0 m pc ls rest).monitorRoom + (rest.map fun v => v.category).sum ≤ 8) (hdg : decode cc pc = .ok (.invokevirtual index, 3))
    (kx : ∀ (E : String) (ce : Cell) (q9 : Addr) (H1 : Heap) (locs1 : List Loc), px E → va_P D vwCl ws H1 → va_S A s.heap H1 locs1 → H1[q9]? = some ce → ce.vm = .none → s.vm.findClass E = some ce.cls → vx_W p l e R s m args below meth c H1 locs1 (cells + mc) (slots + ms) Q (F0 m pc ls rest) q9)
    (kk : ∀ (u : S) (H1 : Heap) (locs1 : List Loc), post u → va_P D vwCl (wN u) H1 → va_D A (wN u) → va_S A s.heap H1 locs1 → W p l e R s m args below meth c H1 locs1 (cells + mc) (slots + ms) Q (F0 m (pc + 3) ls ((rv u).toList ++ rest))) : W p l e R s m args below meth c H locs cells slots Q (F0 m pc ls st0) := by
  obtain ⟨f1, f2, f3, f4, f5⟩ := F
  exact z_endX isC isR perm perm0 hA hP hD hS hC hnn.1 hRr hnn.2.1 hdis hperm hnn.2.2 hperm0 (vx_runV (z_cf C) (hM H.size) ⟨z_cb C hl f3 f4 f5 hR, C.2.2.1 _ f1, C.2.2.1 _ f2⟩ ⟨zPw_blind, va_recv C.2.2.2.2.2.2.2 (hP.sub isC (z_fm _ _ hC)) hcl he, z_pw C hG hA hP hD hS hC hnn.1⟩ rfl hn hsz hst hW hdg hf) kx kk
theorem z_XS {S : Type} {rv : S → Option Value} {post : S → Prop} {px : String → Prop} {w1 wN : S → va_W} {wc wr : va_W} {y : MethodName} {bytes : ByteArray} {maxL n k index : Nat} {ret : Option FieldType} {As st0 : List Value} (isC isR perm perm0 : List Nat) (C : zC D tys p s m args meth c cc own rt nL) (hG : zG s0 A s s.heap) (hA : ∀ q : Nat, s.heap.size ≤ q → A q) (hP : va_P D vwCl ws H) (hD : va_D A ws) (hS : va_S A s.heap H locs)
    (hM : zX s0 l D tys y bytes maxL ret k mc ms As wc rv post w1 px) (hl : Cond.methodLink own index y ∈ lw_all) (F : zSt y bytes maxL ret n)
    (hC : isC.map (fun i => ws[i]?) = wc.map some) (hRr : isR.map (fun i => ws[i]?) = wr.map some) (hnn : va_nd isC = true ∧ va_nd isR = true ∧ va_nd perm = true) (hdis : ∀ i ∈ isR, i ∉ isC) (hperm : ∀ u, perm.map (fun i => (wr ++ w1 u)[i]?) = (wN u).map some) (hperm0 : perm0.map (fun i => (wr ++ wc)[i]?) = ws.map some)
    (hn : As.length = n) (hR : k + 1 ≤ R.frames ∧ 8 + (maxL + 11) + 40 * k ≤ R.locals) (hf : cells + mc ≤ R.cells ∧ slots + ms ≤ R.slots)
    (hsz : ls.size = nL) (hst : st0 = As.reverse ++ rest) (hW : 2 * (F0 m pc ls rest).monitorRoom + (rest.map fun v => v.category).sum ≤ 8) (hdg : decode cc pc = .ok (.invokestatic index, 3))
    (kx : ∀ (E : String) (ce : Cell) (q9 : Addr) (H1 : Heap) (locs1 : List Loc), px E → va_P D vwCl ws H1 → va_S A s.heap H1 locs1 → H1[q9]? = some ce → ce.vm = .none → s.vm.findClass E = some ce.cls → vx_W p l e R s m args below meth c H1 locs1 (cells + mc) (slots + ms) Q (F0 m pc ls rest) q9)
    (kk : ∀ (u : S) (H1 : Heap) (locs1 : List Loc), post u → va_P D vwCl (wN u) H1 → va_D A (wN u) → va_S A s.heap H1 locs1 → W p l e R s m args below meth c H1 locs1 (cells + mc) (slots + ms) Q (F0 m (pc + 3) ls ((rv u).toList ++ rest))) : W p l e R s m args below meth c H locs cells slots Q (F0 m pc ls st0) := by
  obtain ⟨f1, f3, f4, f5⟩ := F
  exact z_endX isC isR perm perm0 hA hP hD hS hC hnn.1 hRr hnn.2.1 hdis hperm hnn.2.2 hperm0 (vx_runS (z_cf C) (hM H.size) ⟨z_cb C hl f3 f4 f5 hR, C.2.2.1 _ f1⟩ ⟨zPw_blind, z_pw C hG hA hP hD hS hC hnn.1⟩ rfl hn hsz hst hW hdg hf) kx kk
/-- thrown on: a method without a table -/
theorem zX_out {E : String} {ce : Cell} {q : Addr} {Qc : Array Value → State → Outcome → State → Prop} {px : String → Prop} {w0 : va_W} (C : zC D tys p s m args meth c cc own rt nL) (hnt : ∀ x ∈ c.exceptionTable.toList, False) (hE : px E) (hP : va_P D vwCl w0 H) (hS : va_S A s.heap H locs) (hce : H[q]? = some ce) (hv : ce.vm = .none) (hcl : s.vm.findClass E = some ce.cls) (hc : cells ≤ mc) (hs : slots ≤ ms) :
    vx_W p l e R s m args below meth c H locs cells slots (vx_MQ below Qc (zXC D px w0 A) args s mc ms A) (F0 m pc ls rest) q :=
  vx_out (fun x hx => (hnt x hx).elim) C.2.2.2.2.2.2.1 hce hv hcl (fun t ht _ => ⟨hE, by rw [ht]; exact hP, hS.F ht⟩) hS.2.2 hc hs
end ZR

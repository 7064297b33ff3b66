/-! THE WORLDS: what the cells of the objects hold -/
abbrev BS : Type := (Nat → Int32) × (Nat → Int32) × (Nat → Int32) × (Nat → Int32) × Int32
abbrev TS : Type := (Nat → Int32) × (Nat → Int32) × (Nat → Int32) × (Nat → Int32) × (Nat → Int32) × (Nat → Int32) × (Nat → Int32) × (Nat → Int32) × (Nat → Int32) × (Nat → Int32) × Int32
abbrev DS : Type := BS × BS × TS × Int32 × Int32
abbrev MS : Type := Int32 × Int32 × Int32 × (Nat → Int32) × (Nat → Int32) × (Nat → Int32) × (Nat → Int32) × (Nat → Int32) × (Nat → Int32) × (Nat → Int32) × (Nat → Int32) × (Nat → Int32)
abbrev zty (cI cB cJ : ClassId) : List (ClassId × FieldType) := [(cI, .int), (cB, .byte), (cJ, .long)]
abbrev wB (cI : ClassId) (bA tA : Nat → Nat) (b : BS) (T : TS) : va_W := [((bA 0), .inr (4, [.ref (tA 0), .ref (bA 1), .ref (bA 2), .ref (bA 3), .ref (bA 4), .int b.2.2.2.2])), ((bA 1), .inl (cI, 6, .inl b.1)), ((bA 2), .inl (cI, 20, .inl b.2.1)), ((bA 3), .inl (cI, 20, .inl b.2.2.1)), ((bA 4), .inl (cI, 20, .inl b.2.2.2.1)), ((tA 0), .inr (5, [.ref (tA 1), .ref (tA 2), .ref (tA 3), .ref (tA 4), .ref (tA 5), .ref (tA 6), .ref (tA 7), .ref (tA 8), .ref (tA 9), .ref (tA 10), .int T.2.2.2.2.2.2.2.2.2.2])), ((tA 1), .inl (cI, 20, .inl T.1)), ((tA 2), .inl (cI, 20, .inl T.2.1)), ((tA 3), .inl (cI, 20, .inl T.2.2.1)), ((tA 4), .inl (cI, 20, .inl T.2.2.2.1)), ((tA 5), .inl (cI, 20, .inl T.2.2.2.2.1)), ((tA 6), .inl (cI, 20, .inl T.2.2.2.2.2.1)), ((tA 7), .inl (cI, 20, .inl T.2.2.2.2.2.2.1)), ((tA 8), .inl (cI, 20, .inl T.2.2.2.2.2.2.2.1)), ((tA 9), .inl (cI, 20, .inl T.2.2.2.2.2.2.2.2.1)), ((tA 10), .inl (cI, 20, .inl T.2.2.2.2.2.2.2.2.2.1))]
abbrev wT (cI : ClassId) (tA : Nat → Nat) (T : TS) : va_W := [((tA 0), .inr (5, [.ref (tA 1), .ref (tA 2), .ref (tA 3), .ref (tA 4), .ref (tA 5), .ref (tA 6), .ref (tA 7), .ref (tA 8), .ref (tA 9), .ref (tA 10), .int T.2.2.2.2.2.2.2.2.2.2])), ((tA 1), .inl (cI, 20, .inl T.1)), ((tA 2), .inl (cI, 20, .inl T.2.1)), ((tA 3), .inl (cI, 20, .inl T.2.2.1)), ((tA 4), .inl (cI, 20, .inl T.2.2.2.1)), ((tA 5), .inl (cI, 20, .inl T.2.2.2.2.1)), ((tA 6), .inl (cI, 20, .inl T.2.2.2.2.2.1)), ((tA 7), .inl (cI, 20, .inl T.2.2.2.2.2.2.1)), ((tA 8), .inl (cI, 20, .inl T.2.2.2.2.2.2.2.1)), ((tA 9), .inl (cI, 20, .inl T.2.2.2.2.2.2.2.2.1)), ((tA 10), .inl (cI, 20, .inl T.2.2.2.2.2.2.2.2.2.1))]
abbrev wBB (cI : ClassId) (bA oA tA : Nat → Nat) (b o : BS) : va_W := [((bA 0), .inr (4, [.ref (tA 0), .ref (bA 1), .ref (bA 2), .ref (bA 3), .ref (bA 4), .int b.2.2.2.2])), ((bA 1), .inl (cI, 6, .inl b.1)), ((bA 2), .inl (cI, 20, .inl b.2.1)), ((bA 3), .inl (cI, 20, .inl b.2.2.1)), ((bA 4), .inl (cI, 20, .inl b.2.2.2.1)), ((oA 0), .inr (4, [.ref (tA 0), .ref (oA 1), .ref (oA 2), .ref (oA 3), .ref (oA 4), .int o.2.2.2.2])), ((oA 1), .inl (cI, 6, .inl o.1)), ((oA 2), .inl (cI, 20, .inl o.2.1)), ((oA 3), .inl (cI, 20, .inl o.2.2.1)), ((oA 4), .inl (cI, 20, .inl o.2.2.2.1))]
abbrev wD (cI : ClassId) (dA bA aA tA : Nat → Nat) (d : DS) : va_W := [((dA 0), .inr (6, [.ref (tA 0), .ref (bA 0), .ref (aA 0), .int d.2.2.2.1, .int d.2.2.2.2])), ((bA 0), .inr (4, [.ref (tA 0), .ref (bA 1), .ref (bA 2), .ref (bA 3), .ref (bA 4), .int d.1.2.2.2.2])), ((bA 1), .inl (cI, 6, .inl d.1.1)), ((bA 2), .inl (cI, 20, .inl d.1.2.1)), ((bA 3), .inl (cI, 20, .inl d.1.2.2.1)), ((bA 4), .inl (cI, 20, .inl d.1.2.2.2.1)), ((aA 0), .inr (4, [.ref (tA 0), .ref (aA 1), .ref (aA 2), .ref (aA 3), .ref (aA 4), .int d.2.1.2.2.2.2])), ((aA 1), .inl (cI, 6, .inl d.2.1.1)), ((aA 2), .inl (cI, 20, .inl d.2.1.2.1)), ((aA 3), .inl (cI, 20, .inl d.2.1.2.2.1)), ((aA 4), .inl (cI, 20, .inl d.2.1.2.2.2.1)), ((tA 0), .inr (5, [.ref (tA 1), .ref (tA 2), .ref (tA 3), .ref (tA 4), .ref (tA 5), .ref (tA 6), .ref (tA 7), .ref (tA 8), .ref (tA 9), .ref (tA 10), .int d.2.2.1.2.2.2.2.2.2.2.2.2.2])), ((tA 1), .inl (cI, 20, .inl d.2.2.1.1)), ((tA 2), .inl (cI, 20, .inl d.2.2.1.2.1)), ((tA 3), .inl (cI, 20, .inl d.2.2.1.2.2.1)), ((tA 4), .inl (cI, 20, .inl d.2.2.1.2.2.2.1)), ((tA 5), .inl (cI, 20, .inl d.2.2.1.2.2.2.2.1)), ((tA 6), .inl (cI, 20, .inl d.2.2.1.2.2.2.2.2.1)), ((tA 7), .inl (cI, 20, .inl d.2.2.1.2.2.2.2.2.2.1)), ((tA 8), .inl (cI, 20, .inl d.2.2.1.2.2.2.2.2.2.2.1)), ((tA 9), .inl (cI, 20, .inl d.2.2.1.2.2.2.2.2.2.2.2.1)), ((tA 10), .inl (cI, 20, .inl d.2.2.1.2.2.2.2.2.2.2.2.2.1))]
abbrev wM (cI : ClassId) (mA : Nat → Nat) (mo : MS) : va_W := [((mA 0), .inr (7, [.int mo.1, .int mo.2.1, .int mo.2.2.1, .ref (mA 1), .ref (mA 2), .ref (mA 3), .ref (mA 4), .ref (mA 5), .ref (mA 6), .ref (mA 7), .ref (mA 8), .ref (mA 9), .ref (mA 10)])), ((mA 1), .inl (cI, 20, .inl mo.2.2.2.1)), ((mA 2), .inl (cI, 20, .inl mo.2.2.2.2.1)), ((mA 3), .inl (cI, 20, .inl mo.2.2.2.2.2.1)), ((mA 4), .inl (cI, 20, .inl mo.2.2.2.2.2.2.1)), ((mA 5), .inl (cI, 20, .inl mo.2.2.2.2.2.2.2.1)), ((mA 6), .inl (cI, 20, .inl mo.2.2.2.2.2.2.2.2.1)), ((mA 7), .inl (cI, 20, .inl mo.2.2.2.2.2.2.2.2.2.1)), ((mA 8), .inl (cI, 68, .inl mo.2.2.2.2.2.2.2.2.2.2.1)), ((mA 9), .inl (cI, 68, .inl mo.2.2.2.2.2.2.2.2.2.2.2))]
theorem zt_X0 : zT 6 TX0 tyX0 := ⟨tyX0_ok, nmX0⟩
theorem zt_X1 : zT 11 TX1 tyX1 := ⟨tyX1_ok, nmX1⟩
theorem zt_X2 : zT 5 TX2 tyX2 := ⟨tyX2_ok, nmX2⟩
theorem zt_X3 : zT 13 TX3 tyX3 := ⟨tyX3_ok, nmX3⟩
theorem in_X0 : ∀ w ∈ u_ws RX0 TX0 6, w ∈ lw_all := by decide +kernel
theorem in_X1 : ∀ w ∈ u_ws RX1 TX1 11, w ∈ lw_all := by decide +kernel
theorem in_X2 : ∀ w ∈ u_ws RX2 TX2 5, w ∈ lw_all := by decide +kernel
theorem in_X3 : ∀ w ∈ u_ws RX3 TX3 13, w ∈ lw_all := by decide +kernel
theorem zP_fun {D : va_G} {cl : List vw_C} {ws ws' : va_W} {H : Heap} (h : va_P D cl ws H) (e : ∀ k : Nat, ∀ q q' : Nat × va_E, ws[k]? = some q → ws'[k]? = some q' → va_at D cl q H → va_at D cl q' H) (hl : ws'.length ≤ ws.length) : va_P D cl ws' H := by
  intro k q' hk
  have hlt : k < ws.length := Nat.lt_of_lt_of_le (List.getElem?_eq_some_iff.mp hk).1 hl
  exact e k _ q' (List.getElem?_eq_getElem hlt) hk (h k _ (List.getElem?_eq_getElem hlt))
theorem z_cell {cA : ClassId} {n : Nat} {f g : Nat → Int32} (h : ∀ j, j < n → f j = g j) : vp_cell cA (n, .inl f) = vp_cell cA (n, .inl g) := by
  rw [vp_cell_i, vp_cell_i]
  unfold arrV
  congr 1
  apply Array.ext
  · simp
  · intro i h1 h2
    simp at h1 ⊢
    exact h i h1
section ZCopy
variable {p : Program} {l : Launch} {e : Env} {R : Room} {s : State} {m : MethodId} {args : Array Value} {below : List Frame} {meth : Method} {c : Code} {H : Heap} {locs : List Loc} {cells slots : Nat} {Q : State → Prop}
variable {D : va_G} {cI cB cJ : ClassId} {cc : ByteArray} {own : String} {rt : Option FieldType} {nL : Nat} {pc : Nat} {ls : Array Slot} {rest : List Value} {ws : va_W} {A : Nat → Prop} {a a0 : Nat}
/-- a whole row of ints copied into another of the same length -/
theorem z_copy {index n0 : Nat} {f g : Nat → Int32} {n : Int32} (C : zC D (zty cI cB cJ) p s m args meth c cc own rt nL) (w1 : Cond.methodLink own index arraycopyName ∈ lw_all) (w2 : Cond.native arraycopyName ∈ lw_all) (w3 : Cond.static arraycopyName ∈ lw_all) (w4 : Cond.initialized "java/lang/System" ∈ lw_all) (hP : va_P D vwCl ws H) (hD : va_D A ws) (hS : va_S A s.heap H locs) (q0 q1 : Nat) (ha0 : ws[q0]? = some (a0, .inl (cI, n0, .inl f))) (ha1 : ws[q1]? = some (a, .inl (cI, n0, .inl g))) (hsz : ls.size = nL)
    (hn : ¬ n < 0) (hn0 : n.toNatClampNeg = n0) (hfr : 1 ≤ R.frames) (hlo : (rest.map fun v => v.category).sum + (nativeFrameWords "java/lang/System" "arraycopy" 5 + 11) ≤ R.locals) (hdg : decode cc pc = .ok (.invokestatic index, 3))
    (kk : ∀ (H1 : Heap) (locs1 : List Loc), va_P D vwCl (ws.set q1 (a, .inl (cI, n0, .inl f))) H1 → va_D A (ws.set q1 (a, .inl (cI, n0, .inl f))) → va_S A s.heap H1 locs1 → W p l e R s m args below meth c H1 locs1 cells slots Q (F0 m (pc + 3) ls rest)) : W p l e R s m args below meth c H locs cells slots Q (F0 m pc ls (.int n :: .int 0 :: .ref a :: .int 0 :: .ref a0 :: rest)) := by
  refine va_copyi C.1 C.2.1 (C.2.2.2.2.2.1.trans hsz.symm) C.2.2.2.1 (C.2.2.1 _ w1) (C.2.2.1 _ w2) (C.2.2.1 _ w3) (C.2.2.1 _ w4) C.2.2.2.2.2.2.2 hP hD hS q0 q1 0 0 ha0 ha1 rfl rfl rfl (by decide) (by decide) hn (by rw [hn0]; exact Nat.le_of_eq (Nat.zero_add _)) (by rw [hn0]; exact Nat.le_of_eq (Nat.zero_add _)) (fun _ _ => rfl) hfr hlo hdg (fun H1 locs1 hP1 hD1 hS1 => ?_)
  have hl1 := (List.getElem?_eq_some_iff.mp ha1).1
  refine kk H1 locs1 (zP_fun hP1 (fun k q q' hk hk' hq => ?_) (by simp)) (hD.set ha1) hS1
  by_cases hkq : k = q1
  · subst hkq
    rw [List.getElem?_set_self hl1] at hk hk'
    cases hk
    cases hk'
    refine Eq.trans hq (congrArg some (z_cell (fun j hj => ?_)))
    rw [hn0]
    show va_cpy f g 0 0 n0 j = f j
    rw [pk_cpy_in (Nat.zero_le _) (by omega)]
    congr 1
    omega
  · rw [List.getElem?_set_ne (Ne.symm hkq)] at hk hk'
    rw [hk] at hk'
    cases hk'
    exact hq
end ZCopy


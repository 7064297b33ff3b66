/-! DEPTH, AND WHAT HANGS: by steps counted beforehand, and by walking up. -/
/-- the duty d hangs m deep -/
def depN (T : TS) : Nat → Nat → Prop
  | 0, d => T.2.2.2.2.2.2.1 d = -1
  | m + 1, d => ∃ k, k < d ∧ T.2.2.2.2.2.2.1 d = nI k ∧ depN T m k
def okE (T : TS) (n : Nat) : Prop := ∀ d, d < n → ∃ m, m < 20 ∧ T.2.2.2.2.2.2.2.1 d = nI m ∧ depN T m d
/-- whether d, m deep, hangs on o -/
def gHang (T : TS) (o : Nat) : Nat → Nat → Bool
  | 0, _ => false
  | m + 1, d => if T.2.2.2.2.2.2.1 d = nI o then true else gHang T o m (T.2.2.2.2.2.2.1 d).toNatClampNeg
def gDp (T : TS) (d : Nat) : Nat := (T.2.2.2.2.2.2.2.1 d).toNatClampNeg
/-- how many of the first j duties hang on o -/
def gBh (T : TS) (o : Nat) : Nat → Int32
  | 0 => 0
  | j + 1 => if j ≤ o then 0 else gBh T o j + (if gHang T o (gDp T j) j = true then 1 else 0)
section HG
variable {T : TS} {n P : Nat} {b a : BS} {th t PP : Int32} {f k : Nat → Int32} {o : Nat}
theorem okE.dp (hE : okE T n) {d : Nat} (hd : d < n) : gDp T d < 20 ∧ T.2.2.2.2.2.2.2.1 d = nI (gDp T d) ∧ depN T (gDp T d) d := by
  obtain ⟨m, m1, m2, m3⟩ := hE d hd
  have e : gDp T d = m := by rw [gDp, m2, nI_clamp (by omega)]
  rw [e]
  exact ⟨m1, m2, m3⟩
theorem g_hangL {post : Int32 → Prop} {p0 : Int32} (ho : o < 20) : ∀ (m d : Nat), m < 20 → d < 20 → depN T m d → post (if gHang T o m d = true then 1 else 0) → wpX1_hangsSomehowOn_b10 post T p0 (nI o) (m + 1) (nI d) (nI m) := by
  intro m
  induction m with
  | zero =>
    intro d _ _ _ h
    rw [wpX1_hangsSomehowOn_b10]
    exact br_t ((nI_le0 (by omega)).mpr rfl) h
  | succ m ih =>
    intro d hm hd hN h
    obtain ⟨k, hk, ek, hk2⟩ := hN
    rw [wpX1_hangsSomehowOn_b10]
    refine br_f (nI_nle (by omega) (by omega)) ?_
    rw [g_cl hd]
    refine ⟨g_vi hd, fun c => ?_, fun c => ?_⟩
    · rw [gHang, if_pos c, if_pos rfl] at h
      exact h
    · rw [gHang, if_neg c, ek, g_cl (by omega)] at h
      have e1 : nI (m + 1) + (-1) = nI m := by rw [← Int32.sub_eq_add_neg, nI_m1 (by omega)]; rfl
      rw [ek, e1]
      exact ih k (by omega) (by omega) hk2 h
theorem g_hangs {post : Int32 → Prop} (hE : okE T n) (h20 : n ≤ 20) {d : Nat} (hd : d < n) (ho : o < 20) (h : post (if gHang T o (gDp T d) d = true then 1 else 0)) : wpX1_hangsSomehowOn post T (nI d) (nI o) := by
  obtain ⟨d1, d2, d3⟩ := hE.dp hd
  unfold wpX1_hangsSomehowOn
  rw [g_cl (by omega), d2]
  exact ⟨g_vi (by omega), gDp T d + 1, g_hangL ho _ _ d1 (by omega) d3 h⟩
theorem r_hangL {post : Int32 → Prop} {p0 : Int32} (ho : o < 20) : ∀ (m d : Nat), d < 20 → depN T m d → post (if gHang T o m d = true then 1 else 0) → wpX3_hangsOn_b7 post (mkM th P n T f k) p0 (nI o) (m + 1) (T.2.2.2.2.2.2.1 d) := by
  intro m
  induction m with
  | zero =>
    intro d _ hN h
    rw [wpX3_hangsOn_b7]
    exact br_t hN h
  | succ m ih =>
    intro d hd hN h
    obtain ⟨u, hu, eu, hu2⟩ := hN
    rw [wpX3_hangsOn_b7]
    rw [eu]
    refine br_f (nI_nm1 (by omega)) ⟨fun c => ?_, fun c => ⟨g_vi (by omega), ?_⟩⟩
    · rw [gHang, eu, if_pos c, if_pos rfl] at h
      exact h
    · rw [gHang, eu, if_neg c, g_cl (by omega)] at h
      rw [g_cl (by omega)]
      exact ih u (by omega) hu2 h
theorem r_hangs {post : Int32 → Prop} (hE : okE T n) (h20 : n ≤ 20) {d : Nat} (hd : d < n) (ho : o < 20) (h : post (if gHang T o (gDp T d) d = true then 1 else 0)) : wpX3_hangsOn post (mkM th P n T f k) (nI d) (nI o) := by
  obtain ⟨d1, d2, d3⟩ := hE.dp hd
  unfold wpX3_hangsOn
  rw [g_cl (by omega)]
  exact ⟨g_vi (by omega), gDp T d + 1, r_hangL ho _ _ (by omega) d3 h⟩
theorem r_depthL {post : Int32 → Prop} {p0 : Int32} : ∀ (m d c : Nat), d < 20 → depN T m d → post (nI (c + m)) → wpX3_depth_b9 post (mkM th P n T f k) p0 (m + 1) (nI c) (T.2.2.2.2.2.2.1 d) := by
  intro m
  induction m with
  | zero =>
    intro d c _ hN h
    rw [wpX3_depth_b9]
    exact br_t hN h
  | succ m ih =>
    intro d c hd hN h
    obtain ⟨u, hu, eu, hu2⟩ := hN
    rw [wpX3_depth_b9, eu]
    refine br_f (nI_nm1 (by omega)) ⟨g_vi (by omega), ?_⟩
    rw [g_cl (by omega), nI_1]
    exact ih u (c + 1) (by omega) hu2 (by rw [show c + 1 + m = c + (m + 1) by omega]; exact h)
theorem r_depth {post : Int32 → Prop} (hE : okE T n) (h20 : n ≤ 20) {d : Nat} (hd : d < n) (h : post (T.2.2.2.2.2.2.2.1 d)) : wpX3_depth post (mkM th P n T f k) (nI d) := by
  obtain ⟨d1, d2, d3⟩ := hE.dp hd
  unfold wpX3_depth
  rw [g_cl (by omega)]
  refine ⟨g_vi (by omega), gDp T d + 1, ?_⟩
  rw [← nI_0]
  refine r_depthL _ _ 0 (by omega) d3 ?_
  rw [Nat.zero_add, ← d2]
  exact h
theorem gBh_0 : gBh T o (o + 1) = 0 := if_pos (Nat.le_refl o)
theorem g_hgL {post : Int32 → Prop} {px : String → Prop} (hT : okT T n P) (hE : okE T n) (ho : o < 20) (h : post (gBh T o n)) : ∀ (fu j : Nat), j + fu = n → o < j → wpX2_hanging_b11 post px (b, a, T, PP, t) (nI o) (fu + 1) (gBh T o j) (nI j) := by
  have h20 := hT.2.1
  intro fu
  induction fu with
  | zero =>
    intro j hj _
    have e : j = n := by omega
    subst e
    rw [wpX2_hanging_b11]
    exact br_t ((g_cnt hT (by omega)).mpr (by omega)) h
  | succ fu ih =>
    intro j hj hoj
    rw [wpX2_hanging_b11]
    refine br_f (fun z => by have := (g_cnt hT (by omega)).mp z; omega) ?_
    have r := ih (j + 1) (by omega) (by omega)
    rw [gBh, if_neg (by omega)] at r
    unfold wpX2_hanging_b37
    rw [nI_1]
    refine g_hangs hE h20 (by omega) ho ?_
    by_cases c : gHang T o (gDp T j) j = true
    · rw [if_pos c] at r ⊢
      exact b_1 r
    · rw [if_neg c, Int32.add_zero] at r
      rw [if_neg c]
      exact b_0 r
theorem g_hanging {post : Int32 → Prop} {px : String → Prop} {p : Int32} (hT : okT T n P) (hE : okE T n) (h1 : ∀ q, q < n → p = nI q → post (gBh T q n)) (h0 : (¬ ∃ q, q < n ∧ p = nI q) → px "java/lang/IndexOutOfBoundsException") : wpX2_hanging post px (b, a, T, PP, t) p := by
  have h20 := hT.2.1
  unfold wpX2_hanging
  refine d_duty hT (fun q hq e => ?_) h0
  subst e
  refine ⟨n - (q + 1) + 1, ?_⟩
  have r := g_hgL (post := post) (px := px) (b := b) (a := a) (PP := PP) (t := t) hT hE (show q < 20 by omega) (h1 q hq rfl) (n - (q + 1)) (q + 1) (by omega) (by omega)
  rw [gBh_0] at r
  rw [nI_1]
  exact r
theorem r_bhL {post : Int32 → Prop} (hT : okT T n P) (hE : okE T n) (ho : o < 20) (h : post (gBh T o n)) : ∀ (fu j : Nat), j + fu = n → o < j → wpX3_behind_b6 post (mkM th P n T f k) (nI o) (fu + 1) (gBh T o j) (nI j) := by
  have h20 := hT.2.1
  intro fu
  induction fu with
  | zero =>
    intro j hj _
    have e : j = n := by omega
    subst e
    rw [wpX3_behind_b6]
    exact br_t ((r_cnt h20 (by omega)).mpr (by omega)) h
  | succ fu ih =>
    intro j hj hoj
    rw [wpX3_behind_b6]
    refine br_f (fun z => by have := (r_cnt h20 (by omega)).mp z; omega) ?_
    have r := ih (j + 1) (by omega) (by omega)
    rw [gBh, if_neg (by omega)] at r
    unfold wpX3_behind_b29
    rw [nI_1]
    refine r_hangs hE h20 (by omega) ho ?_
    by_cases c : gHang T o (gDp T j) j = true
    · rw [if_pos c] at r ⊢
      exact b_1 r
    · rw [if_neg c] at r ⊢
      exact b_0 r
theorem r_behind {post : Int32 → Prop} (hT : okT T n P) (hE : okE T n) (ho : o < n) (h : post (gBh T o n)) : wpX3_behind post (mkM th P n T f k) (nI o) := by
  have h20 := hT.2.1
  refine ⟨n - (o + 1) + 1, ?_⟩
  have r := r_bhL (post := post) (th := th) (f := f) (k := k) hT hE (show o < 20 by omega) h (n - (o + 1)) (o + 1) (by omega) (by omega)
  rw [gBh_0] at r
  rw [nI_1]
  exact r
end HG
section CY
variable {K : Int32 → DS → MS → SS → (Nat → Int64) → Prop} {X : TS → Nat → SS → Prop} {L : Nat} {xs : Nat → Int32} {i : Int32} {d : DS} {mo : MS} {x : SS} {w : Nat → Int64}
theorem case_hanging (hXE : ∀ T n x, X T n x → okE T n) (hv : ∀ c : Nat, c < 8 → vp_in (i + nI c) L) (hK : ∀ d mo x w, InvG X d mo x → K (i + 8) d mo x w) (hI : InvG X d mo x) : wpLc_1052 K L xs i d mo x w := by
  obtain ⟨P, n, T, b, a, t, f, k, th, rfl, rfl, hn, hT, hB, hX⟩ := hI
  have hE := hXE _ _ _ hX
  have h20 := hT.2.1
  have h6 := hT.2.2.1
  have v1 : vp_in (i + 1) L := hv 1 (by decide)
  unfold wpLc_1052 wpL_hanging wpX3_hanging
  generalize xs (i + 1).toNatClampNeg = p
  refine ⟨v1, g_hanging hT hE (fun q hq e => ⟨v1, ?_⟩) (fun c => ⟨rfl, v1, ?_⟩)⟩
  · subst e
    exact r_isDuty (th := 0) (P := P) (n := n) (T := T) (f := f) (k := k) (by omega) (fun _ _ _ => b_1 (r_behind (th := 0) (P := P) (n := n) (T := T) (f := f) (k := k) hT hE hq (t_ok2 rfl rfl (hK _ _ _ _ ⟨P, n, T, b, a, t, f, k, 0, rfl, rfl, hn, hT, hB, hX⟩)))) (fun c => absurd ⟨q, hq, rfl⟩ c)
  · exact r_isDuty (th := 0) (P := P) (n := n) (T := T) (f := f) (k := k) (by omega) (fun q h1 h2 => absurd ⟨q, h1, h2⟩ c) (fun _ => b_0 (t_no (by decide) rfl (hK _ _ _ _ ⟨P, n, T, b, a, t, f, k, 1, rfl, rfl, hn, hT, hB, hX⟩)))
theorem case_depthOf (hXE : ∀ T n x, X T n x → okE T n) (hv : ∀ c : Nat, c < 8 → vp_in (i + nI c) L) (hK : ∀ d mo x w, InvG X d mo x → K (i + 8) d mo x w) (hI : InvG X d mo x) : wpLc_1108 K L xs i d mo x w := by
  obtain ⟨P, n, T, b, a, t, f, k, th, rfl, rfl, hn, hT, hB, hX⟩ := hI
  have hE := hXE _ _ _ hX
  have h20 := hT.2.1
  have h6 := hT.2.2.1
  have v1 : vp_in (i + 1) L := hv 1 (by decide)
  unfold wpLc_1108 wpL_depthOf wpX2_depthOf wpX3_depthOf
  generalize xs (i + 1).toNatClampNeg = p
  refine ⟨v1, d_duty hT (fun q hq e => ?_) (fun c => ⟨rfl, v1, ?_⟩)⟩
  · subst e
    have hq20 : q < 20 := by omega
    rw [g_cl hq20]
    exact ⟨g_vi hq20, v1, r_isDuty (th := 0) (P := P) (n := n) (T := T) (f := f) (k := k) (by omega) (fun _ _ _ => b_1 (r_depth (th := 0) (P := P) (n := n) (T := T) (f := f) (k := k) hE h20 hq (t_ok2 rfl rfl (hK _ _ _ _ ⟨P, n, T, b, a, t, f, k, 0, rfl, rfl, hn, hT, hB, hX⟩)))) (fun c => absurd ⟨q, hq, rfl⟩ c)⟩
  · exact r_isDuty (th := 0) (P := P) (n := n) (T := T) (f := f) (k := k) (by omega) (fun q h1 h2 => absurd ⟨q, h1, h2⟩ c) (fun _ => b_0 (t_no (by decide) rfl (hK _ _ _ _ ⟨P, n, T, b, a, t, f, k, 1, rfl, rfl, hn, hT, hB, hX⟩)))
end CY

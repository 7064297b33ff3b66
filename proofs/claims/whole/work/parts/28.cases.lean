/-! CASES OF THE LAW: release, stop, addParty, inState, owes. -/
theorem okT_more {T : TS} {n P : Nat} (h : okT T n P) (hP : P < 6) : okT T n (P + 1) := by
  obtain ⟨h1, h2, h3, h4⟩ := h
  refine ⟨h1, h2, by omega, fun d hd => ?_⟩
  obtain ⟨⟨p, p1, p2⟩, ⟨q, q1, q2⟩, r⟩ := h4 d hd
  exact ⟨⟨p, by omega, p2⟩, ⟨q, by omega, q2⟩, r⟩
theorem g_inStateL {post : Int32 → Prop} {px : String → Prop} {T : TS} {n P : Nat} {b a : BS} {PP t v : Int32} (hT : okT T n P) (h : post (gCnt b v n)) : ∀ (fu j : Nat), j + fu = n → wpX2_inState_b10 post px (b, a, T, PP, t) v (fu + 1) (gCnt b v j) (nI j) := by
  have h20 := hT.2.1
  intro fu
  induction fu with
  | zero =>
    intro j hj
    have e : j = n := by omega
    subst e
    rw [wpX2_inState_b10]
    exact br_t ((g_cnt hT (by omega)).mpr (by omega)) h
  | succ fu ih =>
    intro j hj
    have hj20 : j < 20 := by omega
    rw [wpX2_inState_b10]
    refine br_f (fun z => by have := (g_cnt hT (by omega)).mp z; omega) ?_
    have r := ih (j + 1) (by omega)
    unfold wpX2_inState_b37
    rw [nI_1, g_cl hj20]
    refine ⟨g_vi hj20, fun c => ?_, fun c => ?_⟩
    · rw [gCnt, if_pos c] at r
      exact r
    · rw [gCnt, if_neg c, Int32.add_zero] at r
      exact r
theorem g_inState {post : Int32 → Prop} {px : String → Prop} {T : TS} {n P : Nat} {b a : BS} {PP t v : Int32} (hT : okT T n P) (h : post (gCnt b v n)) : ∃ m : Nat, wpX2_inState_b10 post px (b, a, T, PP, t) v m 0 0 := by
  refine ⟨n + 1, ?_⟩
  have r := g_inStateL (post := post) (px := px) (b := b) (a := a) (PP := PP) (t := t) (v := v) hT h n 0 (Nat.zero_add n)
  rw [nI_0] at r
  exact r
/-- what the first j duties ask of the debtor p -/
def gOwe (T : TS) (b : BS) (p : Int32) : Nat → Int32
  | 0 => 0
  | j + 1 => gOwe T b p j + (if T.1 j = p then gPrice T b j else 0)
theorem g_owesL {post : Int32 → Prop} {px : String → Prop} {T : TS} {n P : Nat} {b a : BS} {PP t p : Int32} (hT : okT T n P) (h : post (gOwe T b p n)) : ∀ (fu j : Nat), j + fu = n → wpX2_owes_b9 post px (b, a, T, PP, t) p (fu + 1) (gOwe T b p j) (nI j) := by
  have h20 := hT.2.1
  intro fu
  induction fu with
  | zero =>
    intro j hj
    have e : j = n := by omega
    subst e
    rw [wpX2_owes_b9]
    exact br_t ((g_cnt hT (by omega)).mpr (by omega)) h
  | succ fu ih =>
    intro j hj
    have hj20 : j < 20 := by omega
    rw [wpX2_owes_b9]
    refine br_f (fun z => by have := (g_cnt hT (by omega)).mp z; omega) ?_
    have r := ih (j + 1) (by omega)
    unfold wpX2_owes_b44
    rw [nI_1, g_cl hj20]
    refine ⟨g_vi hj20, fun c => g_price hj20 ?_, fun c => ?_⟩
    · rw [gOwe, if_pos c] at r
      exact r
    · rw [gOwe, if_neg c, Int32.add_zero] at r
      exact r
theorem g_owes {post : Int32 → Prop} {px : String → Prop} {T : TS} {n P : Nat} {b a : BS} {t p : Int32} (hT : okT T n P) (h1 : ∀ q, q < P → p = nI q → post (gOwe T b p n)) (h0 : (¬ ∃ q, q < P ∧ p = nI q) → px "java/lang/IndexOutOfBoundsException") : wpX2_owes post px (b, a, T, nI P, t) p := by
  have h6 := hT.2.2.1
  unfold wpX2_owes
  refine d_party (by omega) (fun q hq e => ⟨n + 1, ?_⟩) h0
  have r := g_owesL (post := post) (px := px) (b := b) (a := a) (PP := nI P) (t := t) (p := p) hT (h1 q hq e) n 0 (Nat.zero_add n)
  rw [nI_0] at r
  exact r
theorem r_owedL {post : Int32 → Prop} {T : TS} {n P : Nat} {b : BS} {th t p : Int32} {f k : Nat → Int32} (hT : okT T n P) (hn : nb b t f) (h : post (gOwe T b p n)) : ∀ (fu j : Nat), j + fu = n → wpX3_owed_b4 post (mkM th P n T f k) p (fu + 1) (gOwe T b p j) (nI j) := by
  have h20 := hT.2.1
  intro fu
  induction fu with
  | zero =>
    intro j hj
    have e : j = n := by omega
    subst e
    rw [wpX3_owed_b4]
    exact br_t ((r_cnt h20 (by omega)).mpr (by omega)) h
  | succ fu ih =>
    intro j hj
    have hj20 : j < 20 := by omega
    rw [wpX3_owed_b4]
    refine br_f (fun z => by have := (r_cnt h20 (by omega)).mp z; omega) ?_
    have r := ih (j + 1) (by omega)
    unfold wpX3_owed_b32
    rw [nI_1, g_cl hj20]
    refine ⟨g_vi hj20, fun c => r_price hn hj20 ?_, fun c => ?_⟩
    · have c : T.1 j = p := c
      rw [gOwe, if_pos c] at r
      exact r
    · have c : ¬ T.1 j = p := c
      rw [gOwe, if_neg c] at r
      exact r
theorem r_owed {post : Int32 → Prop} {T : TS} {n P : Nat} {b : BS} {th t p : Int32} {f k : Nat → Int32} (hT : okT T n P) (hn : nb b t f) (h : post (gOwe T b p n)) : wpX3_owed post (mkM th P n T f k) p := by
  refine ⟨n + 1, ?_⟩
  have r := r_owedL (post := post) (th := th) (k := k) hT hn h n 0 (Nat.zero_add n)
  rw [nI_0] at r
  exact r
section CU
variable {K : Int32 → DS → MS → SS → (Nat → Int64) → Prop} {X : TS → Nat → SS → Prop} {L : Nat} {xs : Nat → Int32} {i : Int32} {d : DS} {mo : MS} {x : SS} {w : Nat → Int64}
theorem case_release (hv : ∀ c : Nat, c < 8 → vp_in (i + nI c) L) (hK : ∀ d mo x w, InvG X d mo x → K (i + 8) d mo x w) (hI : InvG X d mo x) : wpLc_416 K L xs i d mo x w := by
  obtain ⟨P, n, T, b, a, t, f, k, th, rfl, rfl, hn, hT, hB, hX⟩ := hI
  have h20 := hT.2.1
  have h6 := hT.2.2.1
  have v1 : vp_in (i + 1) L := hv 1 (by decide)
  unfold wpLc_416 wpL_release wpX2_release wpX2_release_b38 wpX3_release
  generalize xs (i + 1).toNatClampNeg = p
  refine ⟨v1, d_duty hT (fun q hq e => ?_) (fun c => Or.inl ⟨rfl, v1, ?_⟩)⟩
  · subst e
    have hq20 : q < 20 := by omega
    rw [g_cl hq20]
    by_cases hgo : b.2.1 q = 0 ∨ gOp b q
    · refine ⟨g_vi hq20, fun _ => ?_, fun c0 => g_isOpen hq20 (fun _ => b_1 ?_) (fun c1 => absurd (hgo.resolve_left c0) c1)⟩
      all_goals
        refine g_end hq20 (g_release hT hq ⟨v1, r_isDuty (th := 0) (P := P) (n := n) (T := T) (f := f) (k := k) (by omega) (fun _ _ _ => b_1 (r_state (th := 0) (P := P) (n := n) (T := T) (f := f) (k := k) hn hq20 ⟨fun _ => r_end (th := 0) (P := P) (n := n) (T := T) (f := f) (k := k) hn hq20 (fun f1 hn1 => r_release (th := 0) (P := P) (n := n) (T := T) (f := f1) (k := k) hT hn1 (gEnd_ok (by decide) hB) hq (fun f2 hn2 => ?_)), fun z => absurd ?_ z⟩)) (fun c => absurd ⟨q, hq, rfl⟩ c)⟩)
        · exact t_ok2 rfl rfl (hK _ _ _ _ ⟨P, n, T, (gRel T n (gEnd b q 5) q).2, a, t, f2, k, 0, rfl, rfl, hn2, hT, gRel_ok (gEnd_ok (by decide) hB), hX⟩)
        · rcases hgo with g | g | g <;> rw [g] <;> decide
    · refine ⟨g_vi hq20, fun c0 => absurd (Or.inl c0) hgo, fun _ => g_isOpen hq20 (fun c1 => absurd (Or.inr c1) hgo) (fun _ => b_0 (Or.inr ⟨rfl, v1, ?_⟩))⟩
      refine r_isDuty (th := 0) (P := P) (n := n) (T := T) (f := f) (k := k) (by omega) (fun _ _ _ => b_1 (r_state (th := 0) (P := P) (n := n) (T := T) (f := f) (k := k) hn hq20 ⟨fun z => absurd ?_ hgo, fun _ => t_no (by decide) rfl (hK _ _ _ _ ⟨P, n, T, b, a, t, f, k, 2, rfl, rfl, hn, hT, hB, hX⟩)⟩)) (fun c => absurd ⟨q, hq, rfl⟩ c)
      rcases hB q hq with g | g | g
      · rcases g.1 with g | g | g | g
        · exact Or.inl g
        · rw [g] at z
          exact absurd z (by decide)
        · rw [g] at z
          exact absurd z (by decide)
        · rw [g] at z
          exact absurd z (by decide)
      · exact Or.inr (Or.inl g.1)
      · exact Or.inr (Or.inr g.1)
  · exact r_isDuty (th := 0) (P := P) (n := n) (T := T) (f := f) (k := k) (by omega) (fun q h1 h2 => absurd ⟨q, h1, h2⟩ c) (fun _ => b_0 (t_no (by decide) rfl (hK _ _ _ _ ⟨P, n, T, b, a, t, f, k, 1, rfl, rfl, hn, hT, hB, hX⟩)))
theorem case_stop (hv : ∀ c : Nat, c < 8 → vp_in (i + nI c) L) (hK : ∀ d mo x w, InvG X d mo x → K (i + 8) d mo x w) (hI : InvG X d mo x) : wpLc_472 K L xs i d mo x w := by
  obtain ⟨P, n, T, b, a, t, f, k, th, rfl, rfl, hn, hT, hB, hX⟩ := hI
  have h20 := hT.2.1
  have h6 := hT.2.2.1
  have v1 : vp_in (i + 1) L := hv 1 (by decide)
  have v2 : vp_in (i + 2) L := hv 2 (by decide)
  unfold wpLc_472 wpL_stop wpX2_stop wpX3_stop
  generalize xs (i + 1).toNatClampNeg = p
  generalize xs (i + 2).toNatClampNeg = c9
  refine ⟨v1, v2, d_duty hT (fun q hq e => ?_) (fun c => Or.inl ⟨rfl, v1, v2, ?_⟩)⟩
  · subst e
    have hq20 : q < 20 := by omega
    rw [g_cl hq20, e_48, c_68 (j := 48 + q) (by omega)]
    have vq := g_vi hq20
    refine d_within (fun c1 c2 => g_isOpen hq20 (fun co => b_1 ⟨vq, vq, v1, v2, ?_⟩) (fun co => b_0 (Or.inr (Or.inr ⟨rfl, v1, v2, ?_⟩)))) (fun c => Or.inr (Or.inl ⟨rfl, v1, v2, ?_⟩))
    · obtain ⟨s, hs, es⟩ : ∃ s, s < 21 ∧ c9 = nI s := by
        refine (i_idx (by decide)).mp ⟨c1, ?_⟩
        rw [Int32.le_iff_toInt_le] at c2
        rw [Int32.lt_iff_toInt_lt]
        exact Int.lt_of_le_of_lt c2 (by decide)
      refine r_isDuty (th := 0) (P := P) (n := n) (T := T) (f := f) (k := k) (by omega) (fun _ _ _ => b_1 (r_isFrom (fun _ _ => b_1 (r_isOpen (th := 0) (P := P) (n := n) (T := T) (f := f) (k := k) hn hq20 (fun _ => b_1 ⟨v_68 (by omega), v_68 (by omega), ?_⟩) (fun z => absurd co z))) (fun z => absurd ⟨c1, c2⟩ z))) (fun c => absurd ⟨q, hq, rfl⟩ c)
      refine t_ok2 rfl (hn.2.2.2 q hq20).2.2 (hK _ _ _ _ ⟨P, n, T, gStill b q c9, a, t, upd f (48 + q) c9, k, 0, rfl, rfl, nb_sp hn hq20, hT, fun j hj => ?_, hX⟩)
      by_cases ej : j = q
      · subst ej
        have e2 : (gStill b j c9).2.2.2.1 j = nI s := pk_us.trans es
        rcases hB j hj with g | g | g
        · rcases co with c | c <;> rw [c] at g <;> exact absurd g.1 (by decide)
        · exact Or.inr (Or.inl ⟨g.1, g.2.1, s, by omega, e2⟩)
        · exact Or.inr (Or.inr ⟨g.1, g.2.1, s, by omega, e2⟩)
      · exact okD_eq (hB j hj) rfl rfl (pk_un ej)
    · exact r_isDuty (th := 0) (P := P) (n := n) (T := T) (f := f) (k := k) (by omega) (fun _ _ _ => b_1 (r_isFrom (fun _ _ => b_1 (r_isOpen (th := 0) (P := P) (n := n) (T := T) (f := f) (k := k) hn hq20 (fun z => absurd z co) (fun _ => b_0 (t_no (by decide) rfl (hK _ _ _ _ ⟨P, n, T, b, a, t, f, k, 3, rfl, rfl, hn, hT, hB, hX⟩))))) (fun z => absurd ⟨c1, c2⟩ z))) (fun c => absurd ⟨q, hq, rfl⟩ c)
    · exact r_isDuty (th := 0) (P := P) (n := n) (T := T) (f := f) (k := k) (by omega) (fun _ _ _ => b_1 (r_isFrom (fun c1 c2 => absurd ⟨c1, c2⟩ c) (fun _ => b_0 (t_no (by decide) rfl (hK _ _ _ _ ⟨P, n, T, b, a, t, f, k, 2, rfl, rfl, hn, hT, hB, hX⟩))))) (fun c => absurd ⟨q, hq, rfl⟩ c)
  · exact r_isDuty (th := 0) (P := P) (n := n) (T := T) (f := f) (k := k) (by omega) (fun q h1 h2 => absurd ⟨q, h1, h2⟩ c) (fun _ => b_0 (t_no (by decide) rfl (hK _ _ _ _ ⟨P, n, T, b, a, t, f, k, 1, rfl, rfl, hn, hT, hB, hX⟩)))
theorem case_addParty (hv : ∀ c : Nat, c < 8 → vp_in (i + nI c) L) (hK : ∀ d mo x w, InvG X d mo x → K (i + 8) d mo x w) (hI : InvG X d mo x) : wpLc_172 K L xs i d mo x w := by
  obtain ⟨P, n, T, b, a, t, f, k, th, rfl, rfl, hn, hT, hB, hX⟩ := hI
  have h20 := hT.2.1
  have h6 := hT.2.2.1
  have v1 : vp_in (i + 1) L := hv 1 (by decide)
  unfold wpLc_172 wpL_addParty wpX2_addParty wpX3_addParty
  generalize xs (i + 1).toNatClampNeg = p
  refine ⟨v1, d_within (fun c1 c2 => ⟨fun c3 => ?_, fun c3 => Or.inr ⟨rfl, v1, ?_⟩⟩) (fun c => Or.inl ⟨rfl, v1, ?_⟩)⟩
  · have hP : P < 6 := (nI_ltI (by omega) (by decide)).mp (show nI P < nI 6 from c3)
    refine ⟨vp_in_nI hP (by decide), v1, r_isFrom (fun _ _ => b_1 ⟨fun z => ?_, fun _ => ⟨?_, ?_⟩⟩) (fun z => absurd ⟨c1, c2⟩ z)⟩
    · have := (nI_eq (by omega) (by decide)).mp (show nI P = nI 6 from z)
      omega
    · rw [show (2 : Int32) + (mkM th P n T f k).2.1 = nI (2 + P) from e_2 P]
      exact v_68 (by omega)
    · refine t_ok2 rfl (Int32.add_sub_cancel _ _) (hK _ _ _ _ ⟨P + 1, n, T, (upd b.1 P p, b.2.1, b.2.2.1, b.2.2.2.1, b.2.2.2.2), a, t, upd f (2 + P) p, k, 0, ?_, ?_, nb_pu hn hP, okT_more hT hP, fun j hj => okD_eq (hB j hj) rfl rfl rfl, hX⟩)
      · show (_, _, _, nI P + 1, _) = _
        rw [nI_1, r_cl hP]
      · show (_, nI P + 1, _, _, _, _, _, _, _, _, upd f ((2 : Int32) + nI P).toNatClampNeg p, _) = _
        rw [nI_1, e_2, c_68 (by omega)]
  · have hP : P = 6 := by
      have := (nI_ltI (a := P) (b := 6) (by omega) (by decide))
      have h9 : ¬ P < 6 := fun z => c3 (this.mpr z)
      omega
    exact r_isFrom (fun _ _ => b_1 ⟨fun _ => t_no (by decide) rfl (hK _ _ _ _ ⟨P, n, T, b, a, t, f, k, 2, rfl, rfl, hn, hT, hB, hX⟩), fun z => absurd (show nI P = nI 6 by rw [hP]) z⟩) (fun z => absurd ⟨c1, c2⟩ z)
  · exact r_isFrom (fun c1 c2 => absurd ⟨c1, c2⟩ c) (fun _ => b_0 (t_no (by decide) rfl (hK _ _ _ _ ⟨P, n, T, b, a, t, f, k, 1, rfl, rfl, hn, hT, hB, hX⟩)))
theorem case_inState (hv : ∀ c : Nat, c < 8 → vp_in (i + nI c) L) (hK : ∀ d mo x w, InvG X d mo x → K (i + 8) d mo x w) (hI : InvG X d mo x) : wpLc_703 K L xs i d mo x w := by
  obtain ⟨P, n, T, b, a, t, f, k, th, rfl, rfl, hn, hT, hB, hX⟩ := hI
  have h20 := hT.2.1
  have h6 := hT.2.2.1
  have v1 : vp_in (i + 1) L := hv 1 (by decide)
  unfold wpLc_703 wpL_inState wpX2_inState wpX3_inState
  generalize xs (i + 1).toNatClampNeg = p
  refine ⟨v1, d_within (fun c1 c2 => g_inState hT ⟨v1, ?_⟩) (fun c => ⟨rfl, v1, ?_⟩)⟩
  · exact r_isFrom (fun _ _ => b_1 (r_count (th := 0) (P := P) (n := n) (T := T) (f := f) (k := k) hT hn (t_ok2 rfl rfl (hK _ _ _ _ ⟨P, n, T, b, a, t, f, k, 0, rfl, rfl, hn, hT, hB, hX⟩)))) (fun z => absurd ⟨c1, c2⟩ z)
  · exact r_isFrom (fun c1 c2 => absurd ⟨c1, c2⟩ c) (fun _ => b_0 (t_no (by decide) rfl (hK _ _ _ _ ⟨P, n, T, b, a, t, f, k, 1, rfl, rfl, hn, hT, hB, hX⟩)))
theorem case_owes (hv : ∀ c : Nat, c < 8 → vp_in (i + nI c) L) (hK : ∀ d mo x w, InvG X d mo x → K (i + 8) d mo x w) (hI : InvG X d mo x) : wpLc_1276 K L xs i d mo x w := by
  obtain ⟨P, n, T, b, a, t, f, k, th, rfl, rfl, hn, hT, hB, hX⟩ := hI
  have h20 := hT.2.1
  have h6 := hT.2.2.1
  have v1 : vp_in (i + 1) L := hv 1 (by decide)
  unfold wpLc_1276 wpL_owes wpX3_owes
  generalize xs (i + 1).toNatClampNeg = p
  refine ⟨v1, g_owes hT (fun q hq e => ⟨v1, ?_⟩) (fun c => ⟨rfl, v1, ?_⟩)⟩
  · exact r_isParty (th := 0) (P := P) (n := n) (T := T) (f := f) (k := k) (by omega) (fun _ _ _ => b_1 (r_owed (th := 0) (P := P) (n := n) (T := T) (f := f) (k := k) hT hn (t_ok2 rfl rfl (hK _ _ _ _ ⟨P, n, T, b, a, t, f, k, 0, rfl, rfl, hn, hT, hB, hX⟩)))) (fun c => absurd ⟨q, hq, e⟩ c)
  · exact r_isParty (th := 0) (P := P) (n := n) (T := T) (f := f) (k := k) (by omega) (fun q h1 h2 => absurd ⟨q, h1, h2⟩ c) (fun _ => b_0 (t_no (by decide) rfl (hK _ _ _ _ ⟨P, n, T, b, a, t, f, k, 1, rfl, rfl, hn, hT, hB, hX⟩)))
end CU

/-! UNTIL FAILED: a duty's days by reckoning, and by letting days pass. -/
/-- two books say the same of the duty d -/
def eqAt (b b' : BS) (d : Nat) : Prop := b'.2.1 d = b.2.1 d ∧ b'.2.2.1 d = b.2.2.1 d ∧ b'.2.2.2.1 d = b.2.2.2.1 d
theorem eqAt.rf {b : BS} {d : Nat} : eqAt b b d := ⟨rfl, rfl, rfl⟩
theorem eqAt.tr {b b' b'' : BS} {d : Nat} (h : eqAt b b' d) (h' : eqAt b' b'' d) : eqAt b b'' d := ⟨h'.1.trans h.1, h'.2.1.trans h.2.1, h'.2.2.trans h.2.2⟩
/-- it will be failed after r days -/
def remD (T : TS) (b : BS) (d r : Nat) : Prop := (b.2.1 d = 1 ∧ ∃ l s c, 1 ≤ l ∧ l ≤ 30 ∧ s ≤ 20 ∧ c ≤ 10 ∧ b.2.2.1 d = nI l ∧ b.2.2.2.1 d = nI s ∧ T.2.2.2.2.1 d = nI c ∧ r = s + l + c) ∨ (b.2.1 d = 2 ∧ ∃ l s, 1 ≤ l ∧ l ≤ 30 ∧ s ≤ 20 ∧ b.2.2.1 d = nI l ∧ b.2.2.2.1 d = nI s ∧ r = s + l)
/-- it will never be -/
def dead (b : BS) (d : Nat) : Prop := b.2.1 d = 0 ∨ b.2.1 d = 3 ∨ b.2.1 d = 5
section UF
variable {T : TS} {n P : Nat} {b a : BS} {th t : Int32} {f k : Nat → Int32} {d r : Nat}
theorem remD.eq {b b' : BS} (h : remD T b d r) (e : eqAt b b' d) : remD T b' d r := by
  unfold remD at *
  rw [e.1, e.2.1, e.2.2]
  exact h
theorem gRelF_loc : ∀ (fu j : Nat) (x : Int32 × BS), ¬ x.2.2.1 d = 0 → eqAt x.2 (gFor (gRel1 T) fu j x).2 d := by
  intro fu
  induction fu with
  | zero => exact fun j x _ => eqAt.rf
  | succ fu ih =>
    intro j x h0
    have h1 : eqAt x.2 (gRel1 T j x).2 d := by
      unfold gRel1
      split
      · rename_i c
        have e : d ≠ j := fun e => h0 (e ▸ c.1)
        exact ⟨pk_un e, rfl, rfl⟩
      · exact eqAt.rf
    exact h1.tr (ih (j + 1) (gRel1 T j x) (by rw [h1.1]; exact h0))
theorem gFail_loc {j : Nat} (e : d ≠ j) (h0 : ¬ b.2.1 d = 0) : eqAt b (gFail T n b j) d := by
  have h1 : eqAt b (gEnd (gTake (gMove T b (gFine T b j) j) (gFine T b j)) j 4) d := ⟨pk_un e, pk_un e, pk_un e⟩
  exact h1.tr (gRelF_loc _ _ (0, _) (by show ¬ (gEnd (gTake (gMove T b (gFine T b j) j) (gFine T b j)) j 4).2.1 d = 0; rw [h1.1]; exact h0))
theorem gTick_loc {j : Nat} (e : d ≠ j) : eqAt b (gTick T b j).2 d := by
  unfold gTick
  split
  · split
    · split
      · exact ⟨pk_un e, (pk_un e).trans (pk_un e), rfl⟩
      · exact ⟨rfl, pk_un e, rfl⟩
    · exact ⟨rfl, pk_un e, rfl⟩
  · exact ⟨rfl, rfl, pk_un e⟩
theorem gTk_loc {j : Nat} (e : d ≠ j) (h0 : ¬ b.2.1 d = 0) : eqAt b (gTk T n b j) d := by
  have h1 : eqAt b (gTick T b j).2 d := gTick_loc e
  unfold gTk
  split
  · exact h1.tr (gFail_loc e (by rw [h1.1]; exact h0))
  · exact h1
theorem gDay1_loc {j : Nat} {x : Int32 × BS} (e : d ≠ j) (h0 : ¬ x.2.2.1 d = 0) : eqAt x.2 (gDay1 T n j x).2 d := by
  have := gDay1_b (T := T) (n := n) (b := x.2) (j := j) (x := x.1)
  rw [show gDay1 T n j x = gDay1 T n j (x.1, x.2) from rfl, this]
  split
  · exact gTk_loc e h0
  · exact eqAt.rf
theorem gDayF_loc : ∀ (fu j : Nat) (x : Int32 × BS), d < j → ¬ x.2.2.1 d = 0 → eqAt x.2 (gFor (gDay1 T n) fu j x).2 d := by
  intro fu
  induction fu with
  | zero => exact fun j x _ _ => eqAt.rf
  | succ fu ih =>
    intro j x hj h0
    have h1 : eqAt x.2 (gDay1 T n j x).2 d := gDay1_loc (by omega) h0
    exact h1.tr (ih (j + 1) (gDay1 T n j x) (by omega) (by rw [h1.1]; exact h0))
theorem gEnd4 : (gFail T n b d).2.1 d = 4 := gFail_st.mpr (Or.inl rfl)
theorem gTk_rem (h : remD T b d r) : (r = 1 → (gTk T n b d).2.1 d = 4) ∧ (1 < r → remD T (gTk T n b d) d (r - 1)) := by
  rcases h with ⟨h1, l, s, c, l1, l2, s2, c2, el, es, ec, er⟩ | ⟨h1, l, s, l1, l2, s2, el, es, er⟩
  · by_cases cs : s = 0
    · have c0 : b.2.2.2.1 d ≤ 0 := by rw [es]; exact (nI_le0 (by omega)).mpr cs
      by_cases cl : l = 1
      · have cz : b.2.2.1 d - 1 = 0 := by rw [el, nI_m1 l1, cl]; rfl
        have e1 : gTick T b d = (decide (T.2.2.2.2.1 d = 0), gLate (gLeft b d (b.2.2.1 d - 1)) d (T.2.2.2.2.1 d)) := by rw [gTick, if_pos c0, if_pos cz, if_pos h1]
        by_cases cc : c = 0
        · have c4 : T.2.2.2.2.1 d = 0 := by rw [ec, cc]; exact nI_0
          refine ⟨fun _ => ?_, fun z => by omega⟩
          rw [gTk, e1, if_pos (decide_eq_true c4)]
          exact gEnd4
        · have c4 : ¬ T.2.2.2.2.1 d = 0 := by rw [ec]; exact fun z => cc ((nI_z (by omega)).mp z)
          refine ⟨fun z => by omega, fun _ => ?_⟩
          rw [gTk, e1, if_neg (fun y => c4 (of_decide_eq_true y))]
          exact Or.inr ⟨pk_us, c, s, by omega, by omega, s2, pk_us.trans ec, es, by omega⟩
      · have cz : ¬ b.2.2.1 d - 1 = 0 := by rw [el, nI_m1 l1]; exact fun z => by have := (nI_z (by omega)).mp z; omega
        have e1 : gTick T b d = (false, gLeft b d (b.2.2.1 d - 1)) := by rw [gTick, if_pos c0, if_neg cz]
        refine ⟨fun z => by omega, fun _ => ?_⟩
        rw [gTk, e1, if_neg Bool.false_ne_true]
        exact Or.inl ⟨h1, l - 1, s, c, by omega, by omega, s2, c2, pk_us.trans (by rw [el, nI_m1 l1]), es, ec, by omega⟩
    · have c0 : ¬ b.2.2.2.1 d ≤ 0 := by rw [es]; exact fun z => cs ((nI_le0 (by omega)).mp z)
      have e1 : gTick T b d = (false, gStill b d (b.2.2.2.1 d - 1)) := by rw [gTick, if_neg c0]
      refine ⟨fun z => by omega, fun _ => ?_⟩
      rw [gTk, e1, if_neg Bool.false_ne_true]
      exact Or.inl ⟨h1, l, s - 1, c, l1, l2, by omega, c2, el, pk_us.trans (by rw [es, nI_m1 (by omega)]), ec, by omega⟩
  · have hn1 : ¬ b.2.1 d = 1 := by rw [h1]; decide
    by_cases cs : s = 0
    · have c0 : b.2.2.2.1 d ≤ 0 := by rw [es]; exact (nI_le0 (by omega)).mpr cs
      by_cases cl : l = 1
      · have cz : b.2.2.1 d - 1 = 0 := by rw [el, nI_m1 l1, cl]; rfl
        have e1 : gTick T b d = (true, gLeft b d (b.2.2.1 d - 1)) := by rw [gTick, if_pos c0, if_pos cz, if_neg hn1]
        refine ⟨fun _ => ?_, fun z => by omega⟩
        rw [gTk, e1, if_pos rfl]
        exact gEnd4
      · have cz : ¬ b.2.2.1 d - 1 = 0 := by rw [el, nI_m1 l1]; exact fun z => by have := (nI_z (by omega)).mp z; omega
        have e1 : gTick T b d = (false, gLeft b d (b.2.2.1 d - 1)) := by rw [gTick, if_pos c0, if_neg cz]
        refine ⟨fun z => by omega, fun _ => ?_⟩
        rw [gTk, e1, if_neg Bool.false_ne_true]
        exact Or.inr ⟨h1, l - 1, s, by omega, by omega, s2, pk_us.trans (by rw [el, nI_m1 l1]), es, by omega⟩
    · have c0 : ¬ b.2.2.2.1 d ≤ 0 := by rw [es]; exact fun z => cs ((nI_le0 (by omega)).mp z)
      have e1 : gTick T b d = (false, gStill b d (b.2.2.2.1 d - 1)) := by rw [gTick, if_neg c0]
      refine ⟨fun z => by omega, fun _ => ?_⟩
      rw [gTk, e1, if_neg Bool.false_ne_true]
      exact Or.inr ⟨h1, l, s - 1, l1, l2, by omega, el, pk_us.trans (by rw [es, nI_m1 (by omega)]), by omega⟩
theorem remD.op {b : BS} (h : remD T b d r) : gOp b d ∧ ¬ b.2.1 d = 0 := by
  rcases h with h | h
  · exact ⟨Or.inl h.1, by rw [h.1]; decide⟩
  · exact ⟨Or.inr h.1, by rw [h.1]; decide⟩
theorem gDayF_rem : ∀ (fu j : Nat) (x : Int32 × BS), j + fu = n → j ≤ d → d < n → remD T x.2 d r → (r = 1 → (gFor (gDay1 T n) fu j x).2.2.1 d = 4) ∧ (1 < r → remD T (gFor (gDay1 T n) fu j x).2 d (r - 1)) := by
  intro fu
  induction fu with
  | zero => exact fun j x h1 h2 h3 => by omega
  | succ fu ih =>
    intro j x h1 h2 h3 h
    have hb := gDay1_b (T := T) (n := n) (b := x.2) (j := j) (x := x.1)
    by_cases e : d = j
    · subst e
      rw [if_pos h.op.1] at hb
      have g := gTk_rem (n := n) h
      rw [← hb] at g
      refine ⟨fun z => ?_, fun z => ?_⟩
      · have q := g.1 z
        exact (gDayF_loc fu (d + 1) (gDay1 T n d x) (by omega) (by show ¬ (gDay1 T n d (x.1, x.2)).2.2.1 d = 0; rw [q]; decide)).1.trans q
      · have q := g.2 z
        exact q.eq (gDayF_loc fu (d + 1) (gDay1 T n d x) (by omega) q.op.2)
    · exact ih (j + 1) (gDay1 T n j x) (by omega) (by omega) h3 (h.eq (gDay1_loc e h.op.2))
theorem gDay_rem {x : Int32 × BS} (hd : d < n) (h : remD T x.2 d r) : (r = 1 → (gDay T n x).2.2.1 d = 4) ∧ (1 < r → remD T (gDay T n x).2 d (r - 1)) := gDayF_rem n 0 x (Nat.zero_add n) (Nat.zero_le d) hd h
-- what isn't open never fails
theorem dead_rel : ∀ (fu j : Nat) (x : Int32 × BS), dead x.2 d → dead (gFor (gRel1 T) fu j x).2 d := by
  intro fu
  induction fu with
  | zero => exact fun j x h => h
  | succ fu ih =>
    intro j x h
    refine ih (j + 1) (gRel1 T j x) ?_
    unfold gRel1
    split
    · by_cases e : d = j
      · subst e
        exact Or.inr (Or.inr pk_us)
      · have e1 : upd x.2.2.1 j 5 d = x.2.2.1 d := pk_un e
        show (upd x.2.2.1 j 5 d = 0 ∨ upd x.2.2.1 j 5 d = 3 ∨ upd x.2.2.1 j 5 d = 5)
        rw [e1]
        exact h
    · exact h
theorem dead.eq {b b' : BS} (h : dead b d) (e : b'.2.1 d = b.2.1 d) : dead b' d := by
  unfold dead at *
  rw [e]
  exact h
theorem dead.nop {b : BS} (h : dead b d) : ¬ gOp b d := by
  rintro (c | c) <;> rcases h with h | h | h <;> rw [h] at c <;> exact absurd c (by decide)
theorem dead_day {x : Int32 × BS} (h : dead x.2 d) : dead (gDay T n x).2 d := by
  refine gFor_ind (n := 0 + n) (Pr := fun x : Int32 × BS => dead x.2 d) (fun j x _ h => ?_) n 0 x (Nat.le_refl _) h
  have hb := gDay1_b (T := T) (n := n) (b := x.2) (j := j) (x := x.1)
  show dead (gDay1 T n j (x.1, x.2)).2 d
  rw [hb]
  by_cases c : gOp x.2 j
  · rw [if_pos c]
    have e : d ≠ j := fun e => h.nop (e ▸ c)
    have h1 : dead (gTick T x.2 j).2 d := h.eq (gTick_loc e).1
    unfold gTk
    split
    · refine dead_rel _ _ (0, _) (h1.eq ?_)
      exact pk_un e
    · exact h1
  · rw [if_neg c]
    exact h
/-- the class's reckoning -/
def gUntil (T : TS) (b : BS) (d : Nat) : Int32 := if gOp b d then (if b.2.1 d = 1 then b.2.2.2.1 d + b.2.2.1 d + T.2.2.2.2.1 d else b.2.2.2.1 d + b.2.2.1 d) else -1
theorem i_61 {j : Nat} (hj : j ≤ 61) : ((60 : Int32) < nI j) ↔ j = 61 := by
  rw [show (60 : Int32) = nI 60 from rfl, nI_ltI (by decide) (by omega)]
  omega
theorem r_uDead {post : Int32 → MS → Prop} (hT : okT T n P) (hd : d < n) (h : post (-1) (mkM th P n T k k)) : ∀ (fu j : Nat) (b : BS) (t : Int32) (f : Nat → Int32), j + fu = 61 → nb b t f → okB n b → dead b d → wpX3_untilFailed_b19 post (nI d) (fu + 1) (-1) (nI j) (mkM th P n T f k) := by
  have h20 := hT.2.1
  intro fu
  induction fu with
  | zero =>
    intro j b t f hj hn hB hx
    rw [wpX3_untilFailed_b19]
    exact br_t ((i_61 (by omega)).mpr (by omega)) h
  | succ fu ih =>
    intro j b t f hj hn hB hx
    rw [wpX3_untilFailed_b19]
    refine br_f (fun z => by have := (i_61 (by omega)).mp z; omega) (br_t rfl (r_dayOn (x := 0) hT hn hB (fun f1 hn1 => ?_)))
    have hx1 : dead (gDay T n (0, b)).2 d := dead_day hx
    unfold wpX3_untilFailed_b45
    rw [nI_1]
    refine r_state hn1 (by omega) ⟨fun c => ?_, fun _ => ih (j + 1) _ _ f1 (by omega) hn1 (gDay_ok hT hB) hx1⟩
    rcases hx1 with g | g | g <;> rw [g] at c <;> exact absurd c (by decide)
theorem r_uLive {post : Int32 → MS → Prop} (hT : okT T n P) (hd : d < n) {v : Nat} (hv : v ≤ 60) (h : post (nI v) (mkM th P n T k k)) : ∀ (fu j r : Nat) (b : BS) (t : Int32) (f : Nat → Int32), j + fu = 61 → j + r = v + 1 → 1 ≤ r → nb b t f → okB n b → remD T b d r → wpX3_untilFailed_b19 post (nI d) (fu + 1) (-1) (nI j) (mkM th P n T f k) := by
  have h20 := hT.2.1
  intro fu
  induction fu with
  | zero => exact fun j r b t f h1 h2 h3 => by omega
  | succ fu ih =>
    intro j r b t f hj hr h1 hn hB hx
    rw [wpX3_untilFailed_b19]
    refine br_f (fun z => by have := (i_61 (by omega)).mp z; omega) (br_t rfl (r_dayOn (x := 0) hT hn hB (fun f1 hn1 => ?_)))
    have g := gDay_rem (x := (0, b)) hd hx
    unfold wpX3_untilFailed_b45
    rw [nI_1]
    refine r_state hn1 (by omega) ⟨fun c => ?_, fun c => ?_⟩
    · have er : r = 1 := by
        rcases Nat.lt_or_ge 1 r with q | q
        · have g2 := (g.2 q).op.1
          rcases g2 with g2 | g2 <;> rw [g2] at c <;> exact absurd c (by decide)
        · omega
      have ev : j = v := by omega
      subst ev
      show wpX3_untilFailed_b19 post (nI d) (fu + 1) (nI j) (nI (j + 1)) (mkM th P n T f1 k)
      rw [wpX3_untilFailed_b19]
      exact ⟨fun _ => h, fun _ => ⟨fun z => absurd z (nI_nm1 (by omega)), fun _ => h⟩⟩
    · have er : 1 < r := by
        rcases Nat.lt_or_ge 1 r with q | q
        · exact q
        · exact absurd (g.1 (by omega)) c
      exact ih (j + 1) (r - 1) _ _ f1 (by omega) (by omega) (by omega) hn1 (gDay_ok hT hB) (g.2 er)
theorem r_until {post : Int32 → MS → Prop} (hT : okT T n P) (hn : nb b t f) (hB : okB n b) (hd : d < n) (h : ∀ k, post (gUntil T b d) (mkM th P n T f k)) : wpX3_untilFailed post (mkM th P n T f k) (nI d) := by
  have h20 := hT.2.1
  unfold wpX3_untilFailed wpX3_keep
  refine r_state hn (by omega) ⟨fun c => ?_, fun c => ⟨61, ?_⟩⟩
  · have e : gUntil T b d = -1 := if_neg (by rintro (z | z) <;> rw [z] at c <;> exact absurd c (by decide))
    have q := h k
    rw [e] at q
    exact q
  · have q := h f
    have c1 : (1 : Int32) = nI 1 := rfl
    rw [c1]
    have hc := (hT.2.2.2 d hd).2.2.2.2.1
    rcases hB d hd with g | g | g
    · have hx : dead b d := by
        rcases g.1 with g | g | g | g
        · exact Or.inl g
        · exact Or.inr (Or.inl g)
        · exact absurd g c
        · exact Or.inr (Or.inr g)
      have e : gUntil T b d = -1 := if_neg hx.nop
      rw [e] at q
      exact r_uDead hT hd q 60 1 b t f (by omega) hn hB hx
    · obtain ⟨g1, ⟨l, l1, l2, el⟩, s, s2, es⟩ := g
      obtain ⟨c9, c2, ec⟩ := hc
      have e : gUntil T b d = nI (s + l + c9) := by
        rw [gUntil, if_pos (Or.inl g1), if_pos g1, el, es, ec, nI_add, nI_add]
      rw [e] at q
      exact r_uLive hT hd (v := s + l + c9) (by omega) q 60 1 (s + l + c9) b t f (by omega) (by omega) (by omega) hn hB (Or.inl ⟨g1, l, s, c9, l1, l2, s2, c2, el, es, ec, rfl⟩)
    · obtain ⟨g1, ⟨l, l1, l2, el⟩, s, s2, es⟩ := g
      have e : gUntil T b d = nI (s + l) := by
        rw [gUntil, if_pos (Or.inr g1), if_neg (by rw [g1]; decide), el, es, nI_add]
      rw [e] at q
      exact r_uLive hT hd (v := s + l) (by omega) q 60 1 (s + l) b t f (by omega) (by omega) (by omega) hn hB (Or.inr ⟨g1, l, s, l1, by omega, s2, el, es, rfl⟩)
theorem g_until {post : Int32 → Prop} {px : String → Prop} {p PP : Int32} (hT : okT T n P) (h1 : ∀ q, q < n → p = nI q → post (gUntil T b q)) (h0 : (¬ ∃ q, q < n ∧ p = nI q) → px "java/lang/IndexOutOfBoundsException") : wpX2_daysUntilFailed post px (b, a, T, PP, t) p := by
  have h20 := hT.2.1
  unfold wpX2_daysUntilFailed
  refine d_duty hT (fun q hq e => ?_) h0
  have q1 := h1 q hq e
  subst e
  have hq20 : q < 20 := by omega
  have v := g_vi hq20
  rw [g_cl hq20]
  refine g_isOpen hq20 (fun c => b_1 ⟨v, v, v, fun c2 => ⟨v, ?_⟩, fun c2 => ?_⟩) (fun c => b_0 ?_)
  · rw [gUntil, if_pos c, if_pos c2] at q1
    exact q1
  · rw [gUntil, if_pos c, if_neg c2] at q1
    exact q1
  · rw [gUntil, if_neg c] at q1
    exact q1
end UF
section CX
variable {K : Int32 → DS → MS → SS → (Nat → Int64) → Prop} {X : TS → Nat → SS → Prop} {L : Nat} {xs : Nat → Int32} {i : Int32} {d : DS} {mo : MS} {x : SS} {w : Nat → Int64}
theorem case_daysUntilFailed (hv : ∀ c : Nat, c < 8 → vp_in (i + nI c) L) (hK : ∀ d mo x w, InvG X d mo x → K (i + 8) d mo x w) (hI : InvG X d mo x) : wpLc_1413 K L xs i d mo x w := by
  obtain ⟨P, n, T, b, a, t, f, k, th, rfl, rfl, hn, hT, hB, hX⟩ := hI
  have h20 := hT.2.1
  have h6 := hT.2.2.1
  have v1 : vp_in (i + 1) L := hv 1 (by decide)
  unfold wpLc_1413 wpL_daysUntilFailed wpX3_daysUntilFailed
  generalize xs (i + 1).toNatClampNeg = p
  refine ⟨v1, g_until hT (fun q hq e => ⟨v1, ?_⟩) (fun c => ⟨rfl, v1, ?_⟩)⟩
  · subst e
    exact r_isDuty (th := 0) (P := P) (n := n) (T := T) (f := f) (k := k) (by omega) (fun _ _ _ => b_1 (r_until (th := 0) (P := P) (n := n) (T := T) (f := f) (k := k) hT hn hB hq (fun k' => t_ok2 rfl rfl (hK _ _ _ _ ⟨P, n, T, b, a, t, f, k', 0, rfl, rfl, hn, hT, hB, hX⟩)))) (fun c => absurd ⟨q, hq, rfl⟩ c)
  · exact r_isDuty (th := 0) (P := P) (n := n) (T := T) (f := f) (k := k) (by omega) (fun q h1 h2 => absurd ⟨q, h1, h2⟩ c) (fun _ => b_0 (t_no (by decide) rfl (hK _ _ _ _ ⟨P, n, T, b, a, t, f, k, 1, rfl, rfl, hn, hT, hB, hX⟩)))
end CX

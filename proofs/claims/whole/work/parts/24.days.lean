/-! DAYS: what a book keeps, and the reference's days against the book's. -/
theorem gFor_ind {α : Type} {g : Nat → α → α} {n : Nat} {Pr : α → Prop} (hg : ∀ j a, j < n → Pr a → Pr (g j a)) : ∀ (f j : Nat) (a : α), j + f ≤ n → Pr a → Pr (gFor g f j a) := by
  intro f
  induction f with
  | zero => exact fun j a _ h => h
  | succ f ih => exact fun j a hj h => ih (j + 1) _ (by omega) (hg j a (by omega) h)
theorem w_upd2 {g : Nat → Int32} {k : Nat} {x y : Int32} : upd (upd g k x) k y = upd g k y := by
  funext j
  by_cases e : j = k
  · subst e
    exact pk_us.trans pk_us.symm
  · rw [pk_un e, pk_un e, pk_un e]
theorem okD_eq {b b' : BS} {j : Nat} (h : okD b j) (e1 : b'.2.1 j = b.2.1 j) (e2 : b'.2.2.1 j = b.2.2.1 j) (e3 : b'.2.2.2.1 j = b.2.2.2.1 j) : okD b' j := by
  unfold okD at *
  rw [e1, e2, e3]
  exact h
section DY
variable {th t : Int32} {P n : Nat} {T : TS} {f k : Nat → Int32} {b : BS} {d : Nat}
theorem gEnd_at {v : Int32} (hv : v = 0 ∨ v = 3 ∨ v = 4 ∨ v = 5) : okD (gEnd b d v) d := by
  refine Or.inl ⟨?_, pk_us, pk_us⟩
  have e : (gEnd b d v).2.1 d = v := pk_us
  rw [e]
  exact hv
theorem gEnd_ne {v : Int32} {j : Nat} (e : j ≠ d) (h : okD b j) : okD (gEnd b d v) j := okD_eq h (pk_un e) (pk_un e) (pk_un e)
theorem gEnd_ok {v : Int32} (hv : v = 0 ∨ v = 3 ∨ v = 4 ∨ v = 5) (h : okB n b) : okB n (gEnd b d v) := fun j hj => by
  by_cases e : j = d
  · subst e
    exact gEnd_at hv
  · exact gEnd_ne e (h j hj)
theorem gBegin_ok (hd : ∃ a, 1 ≤ a ∧ a ≤ 30 ∧ T.2.2.2.1 d = nI a) (h : okB n b) : okB n (gBegin T b d) := fun j hj => by
  by_cases e : j = d
  · subst e
    obtain ⟨a, a1, a2, a3⟩ := hd
    exact Or.inr (Or.inl ⟨pk_us, ⟨a, a1, a2, pk_us.trans a3⟩, 0, by omega, pk_us⟩)
  · exact okD_eq (h j hj) (pk_un e) (pk_un e) (pk_un e)
theorem gRel_ok (h : okB n b) : okB n (gRel T n b d).2 :=
  gFor_ind (n := d + 1 + (n - (d + 1))) (Pr := fun x : Int32 × BS => okB n x.2) (fun j a _ ha i hi => gRel1_ok (ha i hi)) _ _ _ (Nat.le_refl _) h
theorem gFail_ok (h : ∀ j, j < n → j ≠ d → okD b j) : okB n (gFail T n b d) := by
  refine gRel_ok (fun j hj => ?_)
  by_cases e : j = d
  · subst e
    exact gEnd_at (by decide)
  · exact gEnd_ne e (okD_eq (h j hj e) rfl rfl rfl)
theorem gFail_left {u v : Int32} : gFail T n (gLate (gLeft b d u) d v) d = gFail T n (gLeft b d u) d := by
  have e : gEnd (gTake (gMove T (gLate (gLeft b d u) d v) (gFine T (gLate (gLeft b d u) d v) d) d) (gFine T (gLate (gLeft b d u) d v) d)) d 4 = gEnd (gTake (gMove T (gLeft b d u) (gFine T (gLeft b d u) d) d) (gFine T (gLeft b d u) d)) d 4 := by
    show (_, upd (upd b.2.1 d 2) d 4, upd (upd (upd b.2.2.1 d u) d v) d 0, _, _) = (_, upd b.2.1 d 4, upd (upd b.2.2.1 d u) d 0, _, _)
    rw [w_upd2, w_upd2, w_upd2]
    rfl
  unfold gFail
  rw [e]
theorem r_cl {p : Nat} (h : p < 6) : (nI p).toNatClampNeg = p := nI_clamp (by omega)
theorem r_fail {post : MS → Prop} (hT : okT T n P) (hn : nb b t f) (hd : d < n) (hB : ∀ j, j < n → j ≠ d → okD b j) (h : ∀ f', nb (gFail T n b d) t f' → post (mkM th P n T f' k)) : wpX3_fail post (mkM th P n T f k) (nI d) := by
  have h20 : d < 20 := Nat.lt_of_lt_of_le hd hT.2.1
  have hP := hT.2.2.1
  obtain ⟨⟨p, hp, ep⟩, ⟨q, hq, eq⟩, -⟩ := hT.2.2.2 d hd
  unfold wpX3_fail
  rw [g_cl h20]
  have e1 : (mkM th P n T f k).2.2.2.1 d = nI p := ep
  have e2 : (mkM th P n T f k).2.2.2.2.1 d = nI q := eq
  rw [e1, e2, e_2, c_68 (j := 2 + p) (by omega)]
  have ef : (mkM th P n T f k).2.2.2.2.2.2.2.2.2.2.1 (2 + p) = b.1 p := hn.2.2.1 p (by omega)
  rw [ef]
  have ec : (if b.1 p < (mkM th P n T f k).2.2.2.2.2.2.2.2.1 d then b.1 p else (mkM th P n T f k).2.2.2.2.2.2.2.2.1 d) = gFine T b d := by
    unfold gFine
    rw [ep, r_cl (by omega)]
  rw [ec]
  refine ⟨g_vi h20, g_vi h20, v_68 (by omega), g_vi h20, g_vi h20, r_move hn (by omega) (by omega) (fun f1 hn1 => ⟨v_68 (j := 1) (by decide), v_68 (j := 1) (by decide), ?_⟩)⟩
  have c1 : ((1 : Int32).toNatClampNeg) = 1 := by decide
  rw [c1]
  have e3 : (mkM th P n T f1 k).2.2.2.2.2.2.2.2.2.2.1 1 = b.2.2.2.2 := hn1.2.1
  have em : gMove T b (gFine T b d) d = (gPay b.1 p q (gFine T b d), b.2.1, b.2.2.1, b.2.2.2.1, b.2.2.2.2) := by
    unfold gMove
    rw [ep, eq, r_cl (by omega), r_cl (by omega)]
  have hn2 : nb (gTake (gMove T b (gFine T b d) d) (gFine T b d)) t (upd f1 1 (b.2.2.2.2 + gFine T b d)) := by
    rw [em]
    exact nb_tk hn1
  show wpX3_end _ (mkM th P n T (upd f1 1 ((mkM th P n T f1 k).2.2.2.2.2.2.2.2.2.2.1 1 + gFine T b d)) k) (nI d) 4
  rw [e3]
  refine r_end hn2 h20 (fun f3 hn3 => ?_)
  refine r_release (post := fun _ m => post m) hT hn3 (fun j hj => ?_) hd (fun f4 hn4 => h f4 hn4)
  by_cases e : j = d
  · subst e
    exact gEnd_at (by decide)
  · exact gEnd_ne e (okD_eq (hB j hj e) rfl rfl rfl)
/-- a book after a day's look at a duty that is open -/
def gTk (T : TS) (n : Nat) (b : BS) (d : Nat) : BS := if (gTick T b d).1 = true then gFail T n (gTick T b d).2 d else (gTick T b d).2
theorem nI_m1 {l : Nat} (h : 1 ≤ l) : nI l - 1 = nI (l - 1) := pk_sub (a := l) (b := 1) h
theorem nI_z {l : Nat} (hl : l < 2 ^ 31) : nI l = 0 ↔ l = 0 := by
  rw [← nI_0, nI_eq hl (by omega)]
theorem nI_le0 {l : Nat} (hl : l < 2 ^ 31) : nI l ≤ 0 ↔ l = 0 := by
  rw [← nI_0, nI_leI hl (by omega)]
  omega
/-- an open duty's days -/
theorem okD_open (h : okD b d) (ho : gOp b d) : (∃ l, 1 ≤ l ∧ l ≤ 30 ∧ b.2.2.1 d = nI l) ∧ ∃ s, s ≤ 20 ∧ b.2.2.2.1 d = nI s := by
  rcases h with h | h | h
  · rcases ho with c | c <;> rw [c] at h <;> exact absurd h.1 (by decide)
  · exact h.2
  · obtain ⟨-, ⟨l, l1, l2, l3⟩, s⟩ := h
    exact ⟨⟨l, l1, by omega, l3⟩, s⟩
theorem r_tick {post : MS → Prop} (hT : okT T n P) (hn : nb b t f) (hB : okB n b) (hd : d < n) (ho : gOp b d) (h : ∀ f', nb (gTk T n b d) t f' → post (mkM th P n T f' k)) : wpX3_tick post (mkM th P n T f k) (nI d) := by
  have h20 : d < 20 := Nat.lt_of_lt_of_le hd hT.2.1
  obtain ⟨⟨l, l1, l2, el⟩, s, s2, es⟩ := okD_open (hB d hd) ho
  unfold wpX3_tick wpX3_tick_b66
  rw [e_8, e_28, e_48, c_68 (j := 8 + d) (by omega), c_68 (j := 28 + d) (by omega), c_68 (j := 48 + d) (by omega), g_cl h20]
  have v8 := v_68 (j := 8 + d) (by omega)
  have v28 := v_68 (j := 28 + d) (by omega)
  have v48 := v_68 (j := 48 + d) (by omega)
  have fl : (mkM th P n T f k).2.2.2.2.2.2.2.2.2.2.1 (28 + d) = b.2.2.1 d := (hn.2.2.2 d h20).2.1
  have fs : (mkM th P n T f k).2.2.2.2.2.2.2.2.2.2.1 (48 + d) = b.2.2.2.1 d := (hn.2.2.2 d h20).2.2
  rw [fl, fs, pk_us]
  have hl : nb (gLeft b d (b.2.2.1 d - 1)) t (upd f (28 + d) (b.2.2.1 d - 1)) := nb_lf hn h20
  have hB2 : ∀ j, j < n → j ≠ d → okD (gLeft b d (b.2.2.1 d - 1)) j := fun j hj e => okD_eq (hB j hj) rfl (pk_un e) rfl
  have ecu : (mkM th P n T f k).2.2.2.2.2.2.2.1 d = T.2.2.2.2.1 d := rfl
  refine ⟨v48, fun c => ⟨v28, v28, v28, fun c2 => ?_, fun c2 => ?_⟩, fun c => ⟨v48, v48, ?_⟩⟩
  · have z : b.2.2.1 d - 1 = 0 := by
      rw [el, nI_m1 l1] at c2 ⊢
      have := (nI_le0 (by omega)).mp c2
      rw [this, nI_0]
    have hL : nb (gLate (gLeft b d (b.2.2.1 d - 1)) d (T.2.2.2.2.1 d)) t (upd (upd (upd f (28 + d) (b.2.2.1 d - 1)) (8 + d) 2) (28 + d) (T.2.2.2.2.1 d)) := nb_lf (nb_st hl h20) h20
    have hB3 : ∀ j, j < n → j ≠ d → okD (gLate (gLeft b d (b.2.2.1 d - 1)) d (T.2.2.2.2.1 d)) j := fun j hj e => okD_eq (hB2 j hj e) (pk_un e) (pk_un e) rfl
    refine r_state (T := T) (k := k) hl h20 ⟨fun c3 => ⟨v8, g_vi h20, v28, fun z1 => absurd z1 (by decide), fun _ => ?_⟩, fun c3 => ⟨v8, g_vi h20, v28, fun _ => ⟨g_vi h20, fun c4 => ?_, fun c4 => ?_⟩, fun z1 => absurd rfl z1⟩⟩
    · have e : gTk T n b d = gFail T n (gLeft b d (b.2.2.1 d - 1)) d := by
        have e1 : gTick T b d = (true, gLeft b d (b.2.2.1 d - 1)) := by
          rw [gTick, if_pos c, if_pos z, if_neg]
          intro c1
          exact absurd (c1.symm.trans c3) (by decide)
        rw [gTk, e1]
        exact if_pos rfl
      rw [e, ← gFail_left (v := T.2.2.2.2.1 d)] at h
      exact r_fail hT hL hd hB3 h
    · have c1 : b.2.1 d = 1 := ho.resolve_right c3
      have e : gTk T n b d = gFail T n (gLate (gLeft b d (b.2.2.1 d - 1)) d (T.2.2.2.2.1 d)) d := by
        have e1 : gTick T b d = (decide (T.2.2.2.2.1 d = 0), gLate (gLeft b d (b.2.2.1 d - 1)) d (T.2.2.2.2.1 d)) := by rw [gTick, if_pos c, if_pos z, if_pos c1]
        rw [gTk, e1]
        exact if_pos (decide_eq_true c4)
      rw [e] at h
      exact r_fail hT hL hd hB3 h
    · have c1 : b.2.1 d = 1 := ho.resolve_right c3
      have e : gTk T n b d = gLate (gLeft b d (b.2.2.1 d - 1)) d (T.2.2.2.2.1 d) := by
        have e1 : gTick T b d = (decide (T.2.2.2.2.1 d = 0), gLate (gLeft b d (b.2.2.1 d - 1)) d (T.2.2.2.2.1 d)) := by rw [gTick, if_pos c, if_pos z, if_pos c1]
        rw [gTk, e1]
        exact if_neg (fun y => c4 (of_decide_eq_true y))
      rw [e] at h
      exact h _ hL
  · have z : ¬ b.2.2.1 d - 1 = 0 := fun z => c2 (by rw [z]; decide)
    have e : gTk T n b d = gLeft b d (b.2.2.1 d - 1) := by
      have e1 : gTick T b d = (false, gLeft b d (b.2.2.1 d - 1)) := by rw [gTick, if_pos c, if_neg z]
      rw [gTk, e1]
      exact if_neg Bool.false_ne_true
    rw [e] at h
    exact h _ hl
  · have e : gTk T n b d = gStill b d (b.2.2.2.1 d - 1) := by
      have e1 : gTick T b d = (false, gStill b d (b.2.2.2.1 d - 1)) := by rw [gTick, if_neg c]
      rw [gTk, e1]
      exact if_neg Bool.false_ne_true
    rw [e] at h
    exact h _ (nb_sp hn h20)
theorem gTk_ok (hT : okT T n P) (hB : okB n b) (hd : d < n) (ho : gOp b d) : okB n (gTk T n b d) := by
  obtain ⟨⟨l, l1, l2, el⟩, s, s2, es⟩ := okD_open (hB d hd) ho
  have hB2 : ∀ j, j < n → j ≠ d → okD (gLeft b d (b.2.2.1 d - 1)) j := fun j hj e => okD_eq (hB j hj) rfl (pk_un e) rfl
  by_cases c : b.2.2.2.1 d ≤ 0
  · by_cases z : b.2.2.1 d - 1 = 0
    · by_cases c1 : b.2.1 d = 1
      · have e1 : gTick T b d = (decide (T.2.2.2.2.1 d = 0), gLate (gLeft b d (b.2.2.1 d - 1)) d (T.2.2.2.2.1 d)) := by rw [gTick, if_pos c, if_pos z, if_pos c1]
        have hB3 : ∀ j, j < n → j ≠ d → okD (gLate (gLeft b d (b.2.2.1 d - 1)) d (T.2.2.2.2.1 d)) j := fun j hj e => okD_eq (hB2 j hj e) (pk_un e) (pk_un e) rfl
        rw [gTk, e1]
        by_cases c4 : T.2.2.2.2.1 d = 0
        · rw [if_pos (decide_eq_true c4)]
          exact gFail_ok hB3
        · rw [if_neg (fun y => c4 (of_decide_eq_true y))]
          intro j hj
          by_cases e : j = d
          · subst e
            obtain ⟨-, -, -, -, ⟨a, a1, a2⟩, -⟩ := hT.2.2.2 j hj
            refine Or.inr (Or.inr ⟨pk_us, ⟨a, ?_, a1, pk_us.trans a2⟩, s, s2, es⟩)
            rcases Nat.eq_zero_or_pos a with q | q
            · rw [q, nI_0] at a2
              exact absurd a2 c4
            · exact q
          · exact hB3 j hj e
      · have e1 : gTick T b d = (true, gLeft b d (b.2.2.1 d - 1)) := by rw [gTick, if_pos c, if_pos z, if_neg c1]
        rw [gTk, e1, if_pos rfl]
        exact gFail_ok hB2
    · have e1 : gTick T b d = (false, gLeft b d (b.2.2.1 d - 1)) := by rw [gTick, if_pos c, if_neg z]
      rw [gTk, e1, if_neg Bool.false_ne_true]
      intro j hj
      by_cases e : j = d
      · subst e
        have el2 : (gLeft b j (b.2.2.1 j - 1)).2.2.1 j = nI (l - 1) := by
          have : (gLeft b j (b.2.2.1 j - 1)).2.2.1 j = b.2.2.1 j - 1 := pk_us
          rw [this, el, nI_m1 l1]
        have l3 : 1 ≤ l - 1 := by
          rcases Nat.eq_zero_or_pos (l - 1) with q | q
          · rw [el, nI_m1 l1, q, nI_0] at z
            exact absurd rfl z
          · exact q
        rcases hB j hj with g | g | g
        · rcases ho with c | c <;> rw [c] at g <;> exact absurd g.1 (by decide)
        · exact Or.inr (Or.inl ⟨g.1, ⟨l - 1, l3, by omega, el2⟩, s, s2, es⟩)
        · obtain ⟨g1, ⟨l', g2, g3, g4⟩, -⟩ := g
          have : l = l' := (nI_eq (by omega) (by omega)).mp (el.symm.trans g4)
          exact Or.inr (Or.inr ⟨g1, ⟨l - 1, l3, by omega, el2⟩, s, s2, es⟩)
      · exact hB2 j hj e
  · have e1 : gTick T b d = (false, gStill b d (b.2.2.2.1 d - 1)) := by rw [gTick, if_neg c]
    rw [gTk, e1, if_neg Bool.false_ne_true]
    intro j hj
    by_cases e : j = d
    · subst e
      have s3 : 1 ≤ s := by
        rcases Nat.eq_zero_or_pos s with q | q
        · rw [es, q, nI_0] at c
          exact absurd (Int32.le_refl 0) c
        · exact q
      have e2 : (gStill b j (b.2.2.2.1 j - 1)).2.2.2.1 j = nI (s - 1) := by
        have : (gStill b j (b.2.2.2.1 j - 1)).2.2.2.1 j = b.2.2.2.1 j - 1 := pk_us
        rw [this, es, nI_m1 s3]
      rcases hB j hj with g | g | g
      · rcases ho with c | c <;> rw [c] at g <;> exact absurd g.1 (by decide)
      · exact Or.inr (Or.inl ⟨g.1, g.2.1, s - 1, by omega, e2⟩)
      · exact Or.inr (Or.inr ⟨g.1, g.2.1, s - 1, by omega, e2⟩)
    · exact okD_eq (hB j hj) rfl rfl (pk_un e)
end DY

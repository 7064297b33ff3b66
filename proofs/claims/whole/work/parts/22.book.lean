/-! THE BOOK'S METHODS, as functions of their state: what each wp asks. -/
def gFor {α : Type} (g : Nat → α → α) : Nat → Nat → α → α
  | 0, _, a => a
  | f + 1, j, a => gFor g f (j + 1) (g j a)
abbrev gOp (b : BS) (d : Nat) : Prop := b.2.1 d = 1 ∨ b.2.1 d = 2
abbrev gGone (b : BS) (a : Int32) : Prop := a ≠ (-1) ∧ (b.2.1 a.toNatClampNeg = 4 ∨ b.2.1 a.toNatClampNeg = 5)
def gPrice (T : TS) (b : BS) (d : Nat) : Int32 := if b.2.1 d = 1 then T.2.2.1 d else if b.2.1 d = 2 then T.2.2.1 d + T.2.2.2.2.2.1 d / 2 else 0
def gBegin (T : TS) (b : BS) (d : Nat) : BS := (b.1, upd b.2.1 d 1, upd b.2.2.1 d (T.2.2.2.1 d), upd b.2.2.2.1 d 0, b.2.2.2.2)
def gEnd (b : BS) (d : Nat) (v : Int32) : BS := (b.1, upd b.2.1 d v, upd b.2.2.1 d 0, upd b.2.2.2.1 d 0, b.2.2.2.2)
/-- coins from the purse p to the purse q -/
def gPay (f : Nat → Int32) (p q : Nat) (c : Int32) : Nat → Int32 := upd (upd f p (f p - c)) q (upd f p (f p - c) q + c)
def gMove (T : TS) (b : BS) (c : Int32) (d : Nat) : BS := (gPay b.1 (T.1 d).toNatClampNeg (T.2.1 d).toNatClampNeg c, b.2.1, b.2.2.1, b.2.2.2.1, b.2.2.2.2)
def gWake (T : TS) (d : Nat) (k : Nat) (b : BS) : BS := if T.2.2.2.2.2.2.1 k = nI d ∧ b.2.1 k = 0 then gBegin T b k else b
def gSettle (T : TS) (n : Nat) (b : BS) (d : Nat) : BS := gFor (gWake T d) (n - (d + 1)) (d + 1) (gEnd (gMove T b (gPrice T b d) d) d 3)
def gRel1 (T : TS) (k : Nat) (x : Int32 × BS) : Int32 × BS := if x.2.2.1 k = 0 ∧ gGone x.2 (T.2.2.2.2.2.2.1 k) then (x.1 + 1, (x.2.1, upd x.2.2.1 k 5, x.2.2.2.1, x.2.2.2.2.1, x.2.2.2.2.2)) else x
def gRel (T : TS) (n : Nat) (b : BS) (d : Nat) : Int32 × BS := gFor (gRel1 T) (n - (d + 1)) (d + 1) (0, b)
def gFine (T : TS) (b : BS) (d : Nat) : Int32 := if b.1 (T.1 d).toNatClampNeg < T.2.2.2.2.2.1 d then b.1 (T.1 d).toNatClampNeg else T.2.2.2.2.2.1 d
def gTake (b : BS) (c : Int32) : BS := (b.1, b.2.1, b.2.2.1, b.2.2.2.1, b.2.2.2.2 + c)
def gFail (T : TS) (n : Nat) (b : BS) (d : Nat) : BS := (gRel T n (gEnd (gTake (gMove T b (gFine T b d) d) (gFine T b d)) d 4) d).2
def gLeft (b : BS) (d : Nat) (v : Int32) : BS := (b.1, b.2.1, upd b.2.2.1 d v, b.2.2.2.1, b.2.2.2.2)
def gLate (b : BS) (d : Nat) (v : Int32) : BS := (b.1, upd b.2.1 d 2, upd b.2.2.1 d v, b.2.2.2.1, b.2.2.2.2)
def gStill (b : BS) (d : Nat) (v : Int32) : BS := (b.1, b.2.1, b.2.2.1, upd b.2.2.2.1 d v, b.2.2.2.2)
/-- whether it runs out today, and the book then -/
def gTick (T : TS) (b : BS) (d : Nat) : Bool × BS :=
  if b.2.2.2.1 d ≤ 0 then
    (if b.2.2.1 d - 1 = 0 then (if b.2.1 d = 1 then (decide (T.2.2.2.2.1 d = 0), gLate (gLeft b d (b.2.2.1 d - 1)) d (T.2.2.2.2.1 d)) else (true, gLeft b d (b.2.2.1 d - 1)))
     else (false, gLeft b d (b.2.2.1 d - 1)))
  else (false, gStill b d (b.2.2.2.1 d - 1))
def gDay1 (T : TS) (n : Nat) (k : Nat) (x : Int32 × BS) : Int32 × BS := if gOp x.2 k then (if (gTick T x.2 k).1 = true then (x.1 + 1, gFail T n (gTick T x.2 k).2 k) else (x.1, (gTick T x.2 k).2)) else x
def gDay (T : TS) (n : Nat) (x : Int32 × BS) : Int32 × BS := gFor (gDay1 T n) n 0 x
def gLive (T : TS) (n : Nat) (many : Nat) (b : BS) : Int32 × BS := gFor (fun _ x => gDay T n x) many 0 (0, b)
/-- what the terms must be: n duties, among P parties -/
def okT (T : TS) (n P : Nat) : Prop := T.2.2.2.2.2.2.2.2.2.2 = nI n ∧ n ≤ 20 ∧ P ≤ 6 ∧ ∀ d, d < n → (∃ p, p < P ∧ T.1 d = nI p) ∧ (∃ p, p < P ∧ T.2.1 d = nI p) ∧ (∃ a, 1 ≤ a ∧ a ≤ 50 ∧ T.2.2.1 d = nI a) ∧ (∃ a, 1 ≤ a ∧ a ≤ 30 ∧ T.2.2.2.1 d = nI a) ∧ (∃ a, a ≤ 10 ∧ T.2.2.2.2.1 d = nI a) ∧ (∃ a, a ≤ 20 ∧ T.2.2.2.2.2.1 d = nI a) ∧ (T.2.2.2.2.2.2.1 d = -1 ∨ ∃ k, k < d ∧ T.2.2.2.2.2.2.1 d = nI k)
section GB
variable {T : TS} {n P : Nat} {b : BS} {d : Nat}
theorem okT.deb (h : okT T n P) (hd : d < n) : vp_in (T.1 d) 6 := by
  obtain ⟨-, h1, h2, h3⟩ := h
  obtain ⟨⟨p, hp, e⟩, -⟩ := h3 d hd
  rw [e]
  exact vp_in_nI (by omega) (by decide)
theorem okT.cre (h : okT T n P) (hd : d < n) : vp_in (T.2.1 d) 6 := by
  obtain ⟨-, h1, h2, h3⟩ := h
  obtain ⟨-, ⟨p, hp, e⟩, -⟩ := h3 d hd
  rw [e]
  exact vp_in_nI (by omega) (by decide)
theorem okT.aft (h : okT T n P) (hd : d < n) : T.2.2.2.2.2.2.1 d = -1 ∨ vp_in (T.2.2.2.2.2.2.1 d) 20 := by
  obtain ⟨-, h1, h2, h3⟩ := h
  obtain ⟨-, -, -, -, -, -, e⟩ := h3 d hd
  rcases e with e | ⟨k, hk, e⟩
  · exact Or.inl e
  · rw [e]
    exact Or.inr (vp_in_nI (by omega) (by decide))
theorem g_cl (hd : d < 20) : (nI d).toNatClampNeg = d := nI_clamp (by omega)
theorem g_vi (hd : d < 20) : vp_in (nI d) 20 := vp_in_nI hd (by decide)
theorem g_isOpen {post : Int32 → Prop} (hd : d < 20) (h1 : gOp b d → post 1) (h0 : ¬ gOp b d → post 0) : wpX0_isOpen post T b (nI d) := by
  unfold wpX0_isOpen
  rw [g_cl hd]
  exact ⟨g_vi hd, fun c => h1 (Or.inl c), fun c => ⟨g_vi hd, fun c2 => h1 (Or.inr c2), fun c2 => h0 (fun z => z.elim c c2)⟩⟩
theorem g_isGone {post : Int32 → Prop} {a : Int32} (ha : a = -1 ∨ vp_in a 20) (h1 : gGone b a → post 1) (h0 : ¬ gGone b a → post 0) : wpX0_isGone post T b a := by
  unfold wpX0_isGone
  refine ⟨fun c => h0 (fun z => z.1 c), fun c => ?_⟩
  have va := ha.resolve_left c
  exact ⟨va, fun c2 => h1 ⟨c, Or.inl c2⟩, fun c2 => ⟨va, fun c3 => h1 ⟨c, Or.inr c3⟩, fun c3 => h0 (fun z => z.2.elim c2 c3)⟩⟩
theorem g_price {post : Int32 → Prop} (hd : d < 20) (h : post (gPrice T b d)) : wpX0_price post T b (nI d) := by
  unfold wpX0_price
  rw [g_cl hd]
  refine ⟨g_vi hd, fun c => ⟨g_vi hd, ?_⟩, fun c => ⟨g_vi hd, fun c2 => ⟨g_vi hd, g_vi hd, ?_⟩, fun c2 => ?_⟩⟩
  · rw [gPrice, if_pos c] at h
    exact h
  · rw [gPrice, if_neg c, if_pos c2] at h
    exact h
  · rw [gPrice, if_neg c, if_neg c2] at h
    exact h
abbrev gCan (T : TS) (b : BS) (d : Nat) : Prop := gOp b d ∧ ¬ b.1 (T.1 d).toNatClampNeg < gPrice T b d
theorem g_canBePaid {post : Int32 → Prop} (hT : okT T n P) (hd : d < n) (h1 : gCan T b d → post 1) (h0 : ¬ gCan T b d → post 0) : wpX0_canBePaid post T b (nI d) := by
  have h20 : d < 20 := Nat.lt_of_lt_of_le hd hT.2.1
  unfold wpX0_canBePaid
  refine g_isOpen h20 (fun c => ⟨fun z => absurd z (by decide), fun _ => ?_⟩) (fun c => ⟨fun _ => h0 (fun z => c z.1), fun z => absurd rfl z⟩)
  rw [g_cl h20]
  exact ⟨g_vi h20, hT.deb hd, g_price h20 ⟨fun z => h0 (fun y => y.2 z), fun z => h1 ⟨c, z⟩⟩⟩
theorem g_begin {post : BS → Prop} (hd : d < 20) (h : post (gBegin T b d)) : wpX0_begin post T b (nI d) := by
  unfold wpX0_begin
  rw [g_cl hd]
  exact ⟨g_vi hd, g_vi hd, g_vi hd, g_vi hd, h⟩
theorem g_end {post : BS → Prop} {v : Int32} (hd : d < 20) (h : post (gEnd b d v)) : wpX0_end post T b (nI d) v := by
  unfold wpX0_end
  rw [g_cl hd]
  exact ⟨g_vi hd, g_vi hd, g_vi hd, h⟩
theorem g_move {post : BS → Prop} {c : Int32} (hT : okT T n P) (hd : d < n) (h : post (gMove T b c d)) : wpX0_move post T b c (nI d) := by
  have h20 : d < 20 := Nat.lt_of_lt_of_le hd hT.2.1
  unfold wpX0_move
  rw [g_cl h20]
  exact ⟨g_vi h20, hT.deb hd, hT.deb hd, g_vi h20, hT.cre hd, hT.cre hd, h⟩
def gEnter (T : TS) (b : BS) (d : Nat) : BS := if T.2.2.2.2.2.2.1 d = -1 then gBegin T b d else if b.2.1 (T.2.2.2.2.2.2.1 d).toNatClampNeg = 0 ∨ gOp b (T.2.2.2.2.2.2.1 d).toNatClampNeg then gEnd b d 0 else gBegin T b d
theorem g_enter {post : BS → Prop} (hd : d < 20) (ha : T.2.2.2.2.2.2.1 d = -1 ∨ ∃ k, k < d ∧ T.2.2.2.2.2.2.1 d = nI k) (h : post (gEnter T b d)) : wpX0_enter post T b (nI d) := by
  unfold wpX0_enter
  rw [g_cl hd]
  refine ⟨g_vi hd, fun c => ?_, fun c => ?_⟩
  · rw [gEnter, if_pos c] at h
    exact g_begin hd h
  · obtain ⟨k, hk, ek⟩ := ha.resolve_left c
    rw [gEnter, if_neg c] at h
    rw [ek, g_cl (by omega)] at h ⊢
    refine ⟨g_vi (by omega), fun c2 => ?_, fun c2 => g_isOpen (by omega) (fun c3 => ⟨fun z => absurd z (by decide), fun _ => ?_⟩) (fun c3 => ⟨fun _ => ?_, fun z => absurd rfl z⟩)⟩
    · rw [if_pos (Or.inl c2)] at h
      exact g_end hd h
    · rw [if_pos (Or.inr c3)] at h
      exact g_end hd h
    · rw [if_neg (fun z => z.elim c2 c3)] at h
      exact g_begin hd h
theorem g_cnt (hT : okT T n P) {j : Nat} (hj : j ≤ n) : (T.2.2.2.2.2.2.2.2.2.2 ≤ nI j) ↔ j = n := by
  have h20 := hT.2.1
  rw [hT.1, nI_leI (by omega) (by omega)]
  omega
theorem g_settleL {post : BS → Prop} (hT : okT T n P) (hd : d < 20) : ∀ (f j : Nat) (b : BS), j + f = n → post (gFor (gWake T d) f j b) → wpX0_settle_b20 post T (nI d) (f + 1) (nI j) b := by
  have h20 := hT.2.1
  intro f
  induction f with
  | zero =>
    intro j b hj h
    rw [wpX0_settle_b20]
    exact br_t ((g_cnt hT (by omega)).mpr (by omega)) h
  | succ f ih =>
    intro j b hj h
    have hj20 : j < 20 := by omega
    rw [wpX0_settle_b20]
    refine br_f (fun z => by have := (g_cnt hT (by omega)).mp z; omega) ?_
    rw [g_cl hj20]
    have h : post (gFor (gWake T d) f (j + 1) (gWake T d j b)) := h
    refine ⟨g_vi hj20, fun c => ⟨g_vi hj20, fun c2 => g_begin hj20 ?_, fun c2 => ?_⟩, fun c => ?_⟩
    · rw [gWake, if_pos ⟨c, c2⟩] at h
      unfold wpX0_settle_b58
      rw [nI_1]
      exact ih (j + 1) _ (by omega) h
    · rw [gWake, if_neg (fun z => c2 z.2)] at h
      unfold wpX0_settle_b58
      rw [nI_1]
      exact ih (j + 1) _ (by omega) h
    · rw [gWake, if_neg (fun z => c z.1)] at h
      unfold wpX0_settle_b58
      rw [nI_1]
      exact ih (j + 1) _ (by omega) h
theorem g_settle {post : BS → Prop} (hT : okT T n P) (hd : d < n) (h : post (gSettle T n b d)) : wpX0_settle post T b (nI d) := by
  have h20 : d < 20 := Nat.lt_of_lt_of_le hd hT.2.1
  unfold wpX0_settle
  refine g_price h20 (g_move hT hd (g_end h20 ⟨n - (d + 1) + 1, ?_⟩))
  rw [nI_1]
  exact g_settleL hT h20 _ _ _ (by omega) h
theorem g_relL {post : Int32 → BS → Prop} {p0 : Int32} (hT : okT T n P) : ∀ (f j : Nat) (x : Int32) (b : BS), j + f = n → post (gFor (gRel1 T) f j (x, b)).1 (gFor (gRel1 T) f j (x, b)).2 → wpX0_releaseWaitingBehind_b6 post T p0 (f + 1) x (nI j) b := by
  have h20 := hT.2.1
  intro f
  induction f with
  | zero =>
    intro j x b hj h
    rw [wpX0_releaseWaitingBehind_b6]
    exact br_t ((g_cnt hT (by omega)).mpr (by omega)) h
  | succ f ih =>
    intro j x b hj h
    have hj20 : j < 20 := by omega
    rw [wpX0_releaseWaitingBehind_b6]
    refine br_f (fun z => by have := (g_cnt hT (by omega)).mp z; omega) ?_
    rw [g_cl hj20]
    have h : post (gFor (gRel1 T) f (j + 1) (gRel1 T j (x, b))).1 (gFor (gRel1 T) f (j + 1) (gRel1 T j (x, b))).2 := h
    refine ⟨g_vi hj20, fun c => ⟨g_vi hj20, g_isGone (hT.aft (by omega)) (fun c2 => ⟨fun z => absurd z (by decide), fun _ => ⟨g_vi hj20, ?_⟩⟩) (fun c2 => ⟨fun _ => ?_, fun z => absurd rfl z⟩)⟩, fun c => ?_⟩
    · rw [gRel1, if_pos ⟨c, c2⟩] at h
      unfold wpX0_releaseWaitingBehind_b52
      rw [nI_1]
      exact ih (j + 1) _ _ (by omega) h
    · rw [gRel1, if_neg (fun z => c2 z.2)] at h
      unfold wpX0_releaseWaitingBehind_b52
      rw [nI_1]
      exact ih (j + 1) _ _ (by omega) h
    · rw [gRel1, if_neg (fun z => c z.1)] at h
      unfold wpX0_releaseWaitingBehind_b52
      rw [nI_1]
      exact ih (j + 1) _ _ (by omega) h
theorem g_release {post : Int32 → BS → Prop} (hT : okT T n P) (hd : d < n) (h : post (gRel T n b d).1 (gRel T n b d).2) : wpX0_releaseWaitingBehind post T b (nI d) := by
  unfold wpX0_releaseWaitingBehind
  refine ⟨n - (d + 1) + 1, ?_⟩
  rw [nI_1]
  exact g_relL hT _ _ _ _ (by omega) h
theorem g_fail {post : BS → Prop} (hT : okT T n P) (hd : d < n) (h : post (gFail T n b d)) : wpX0_fail post T b (nI d) := by
  have h20 : d < 20 := Nat.lt_of_lt_of_le hd hT.2.1
  unfold wpX0_fail
  rw [g_cl h20]
  exact ⟨g_vi h20, g_vi h20, hT.deb hd, g_move hT hd (g_end h20 (g_release (post := fun _ b51 => post b51) hT hd h))⟩
theorem g_tick {post : Int32 → BS → Prop} (hd : d < 20) (h1 : (gTick T b d).1 = true → post 1 (gTick T b d).2) (h0 : ¬ (gTick T b d).1 = true → post 0 (gTick T b d).2) : wpX0_runsOutToday post T b (nI d) := by
  unfold wpX0_runsOutToday wpX0_runsOutToday_b72
  rw [g_cl hd]
  have v := g_vi hd
  refine ⟨v, fun c => ⟨v, v, v, ?_⟩, fun c => ⟨v, v, ?_⟩⟩
  · simp only [pk_us]
    refine ⟨fun c2 => ⟨v, fun c3 => ⟨v, v, v, v, fun c4 => ?_, fun c4 => ?_⟩, fun c3 => ⟨v, fun c4 => ?_, fun c4 => absurd c2 c4⟩⟩, fun c2 => ⟨v, fun c4 => absurd c4 c2, fun c4 => ?_⟩⟩
    · rw [gTick, if_pos c, if_pos c2, if_pos c3] at h1
      exact h1 (decide_eq_true c4)
    · rw [gTick, if_pos c, if_pos c2, if_pos c3] at h0
      exact h0 (fun z => c4 (of_decide_eq_true z))
    · rw [gTick, if_pos c, if_pos c2, if_neg c3] at h1
      exact h1 rfl
    · rw [gTick, if_pos c, if_neg c2] at h0
      exact h0 Bool.false_ne_true
  · rw [gTick, if_neg c] at h0
    exact h0 Bool.false_ne_true
theorem g_liveD {post : Int32 → BS → Prop} {p0 : Int32} {K4 : Int32 → Int32 → BS → Prop} (hT : okT T n P) : ∀ (f j : Nat) (x y : Int32) (b : BS), j + f = n → K4 (gFor (gDay1 T n) f j (x, b)).1 (y + 1) (gFor (gDay1 T n) f j (x, b)).2 → wpX0_live_b12 post T p0 K4 (f + 1) x y (nI j) b := by
  have h20 := hT.2.1
  intro f
  induction f with
  | zero =>
    intro j x y b hj h
    rw [wpX0_live_b12]
    exact br_t ((g_cnt hT (by omega)).mpr (by omega)) h
  | succ f ih =>
    intro j x y b hj h
    have hj20 : j < 20 := by omega
    rw [wpX0_live_b12]
    refine br_f (fun z => by have := (g_cnt hT (by omega)).mp z; omega) ?_
    have h : K4 (gFor (gDay1 T n) f (j + 1) (gDay1 T n j (x, b))).1 (y + 1) (gFor (gDay1 T n) f (j + 1) (gDay1 T n j (x, b))).2 := h
    unfold wpX0_live_b51
    rw [nI_1]
    refine g_isOpen hj20 (fun c => ⟨fun z => absurd z (by decide), fun _ => g_tick hj20 (fun c2 => ⟨fun z => absurd z (by decide), fun _ => g_fail hT (by omega) ?_⟩) (fun c2 => ⟨fun _ => ?_, fun z => absurd rfl z⟩)⟩) (fun c => ⟨fun _ => ?_, fun z => absurd rfl z⟩)
    · rw [gDay1, if_pos c, if_pos c2] at h
      exact ih (j + 1) _ _ _ (by omega) h
    · rw [gDay1, if_pos c, if_neg c2] at h
      exact ih (j + 1) _ _ _ (by omega) h
    · rw [gDay1, if_neg c] at h
      exact ih (j + 1) _ _ _ (by omega) h
theorem g_liveL {post : Int32 → BS → Prop} {many : Nat} (hm : many < 2 ^ 31) (hT : okT T n P) : ∀ (f j : Nat) (x : Int32) (b : BS), j + f = many → post (gFor (fun _ x => gDay T n x) f j (x, b)).1 (gFor (fun _ x => gDay T n x) f j (x, b)).2 → wpX0_live_b4 post T (nI many) (f + 1) x (nI j) b := by
  intro f
  induction f with
  | zero =>
    intro j x b hj h
    rw [wpX0_live_b4]
    exact br_t ((nI_leI (by omega) (by omega)).mpr (by omega)) h
  | succ f ih =>
    intro j x b hj h
    rw [wpX0_live_b4]
    refine br_f (fun z => by have := (nI_leI (by omega) (by omega)).mp z; omega) ⟨n + 1, ?_⟩
    rw [← nI_0]
    refine g_liveD hT n 0 _ _ _ (Nat.zero_add n) ?_
    rw [nI_1]
    exact ih (j + 1) _ _ (by omega) h
theorem g_live {post : Int32 → BS → Prop} {many : Nat} (hm : many < 2 ^ 31) (hT : okT T n P) (h : post (gLive T n many b).1 (gLive T n many b).2) : wpX0_live post T b (nI many) := by
  refine ⟨many + 1, ?_⟩
  have k := g_liveL (post := post) hm hT many 0 0 b (Nat.zero_add _) h
  rw [nI_0] at k
  exact k
end GB

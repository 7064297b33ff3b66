/-! DAYS ON, PAYING, COUNTS: the reference's against the book's. -/
section PS
variable {th t : Int32} {P n : Nat} {T : TS} {f k : Nat → Int32} {b : BS} {d : Nat}
theorem gDay1_b {j : Nat} {x : Int32} : (gDay1 T n j (x, b)).2 = if gOp b j then gTk T n b j else b := by
  unfold gDay1 gTk
  by_cases c : gOp b j
  · rw [if_pos c, if_pos c]
    by_cases c2 : (gTick T b j).1 = true
    · rw [if_pos c2, if_pos c2]
    · rw [if_neg c2, if_neg c2]
  · rw [if_neg c, if_neg c]
theorem gDay1_ok (hT : okT T n P) {j : Nat} {x : Int32} (hj : j < n) (hB : okB n b) : okB n (gDay1 T n j (x, b)).2 := by
  rw [gDay1_b]
  by_cases c : gOp b j
  · rw [if_pos c]
    exact gTk_ok hT hB hj c
  · rw [if_neg c]
    exact hB
theorem gDay_ok (hT : okT T n P) {x : Int32 × BS} (hB : okB n x.2) : okB n (gDay T n x).2 :=
  gFor_ind (n := n) (Pr := fun x : Int32 × BS => okB n x.2) (fun j a hj ha => gDay1_ok (x := a.1) hT hj ha) n 0 x (by omega) hB
theorem gLiveF_ok (hT : okT T n P) (fu j : Nat) {x : Int32 × BS} (hB : okB n x.2) : okB n (gFor (fun _ x => gDay T n x) fu j x).2 :=
  gFor_ind (n := j + fu) (Pr := fun x : Int32 × BS => okB n x.2) (fun _ a _ ha => gDay_ok hT ha) fu j x (Nat.le_refl _) hB
theorem gLive_ok (hT : okT T n P) {m : Nat} (hB : okB n b) : okB n (gLive T n m b).2 := gLiveF_ok hT m 0 hB
theorem r_dayL {post : MS → Prop} (hT : okT T n P) : ∀ (fu j : Nat) (x : Int32) (b : BS) (f : Nat → Int32), j + fu = n → nb b t f → okB n b → (∀ f', nb (gFor (gDay1 T n) fu j (x, b)).2 (t + 1) f' → post (mkM th P n T f' k)) → wpX3_dayOn_b2 post (fu + 1) (nI j) (mkM th P n T f k) := by
  have h20 := hT.2.1
  intro fu
  induction fu with
  | zero =>
    intro j x b f hj hn hB h
    rw [wpX3_dayOn_b2]
    refine br_t ((r_cnt h20 (by omega)).mpr (by omega)) ⟨v_68 (j := 0) (by decide), v_68 (j := 0) (by decide), ?_⟩
    have c0 : ((0 : Int32).toNatClampNeg) = 0 := by decide
    rw [c0]
    have e : (mkM th P n T f k).2.2.2.2.2.2.2.2.2.2.1 0 = t := hn.1
    rw [e]
    exact h _ (nb_day hn)
  | succ fu ih =>
    intro j x b f hj hn hB h
    have hj20 : j < 20 := by omega
    rw [wpX3_dayOn_b2]
    refine br_f (fun z => by have := (r_cnt h20 (by omega)).mp z; omega) ?_
    have h : ∀ f', nb (gFor (gDay1 T n) fu (j + 1) (gDay1 T n j (x, b))).2 (t + 1) f' → post (mkM th P n T f' k) := h
    have hB' := gDay1_ok (x := x) hT (show j < n by omega) hB
    unfold wpX3_dayOn_b23
    rw [nI_1]
    refine r_isOpen hn hj20 (fun c => ⟨fun z => absurd z (by decide), fun _ => r_tick hT hn hB (by omega) c (fun f1 hn1 => ?_)⟩) (fun c => ⟨fun _ => ?_, fun z => absurd rfl z⟩)
    · have e : gTk T n b j = (gDay1 T n j (x, b)).2 := by rw [gDay1_b, if_pos c]
      rw [e] at hn1
      exact ih (j + 1) (gDay1 T n j (x, b)).1 _ f1 (by omega) hn1 hB' h
    · have e : b = (gDay1 T n j (x, b)).2 := by rw [gDay1_b, if_neg c]
      have hn1 : nb (gDay1 T n j (x, b)).2 t f := e ▸ hn
      exact ih (j + 1) (gDay1 T n j (x, b)).1 _ f (by omega) hn1 hB' h
theorem r_dayOn {post : MS → Prop} {x : Int32} (hT : okT T n P) (hn : nb b t f) (hB : okB n b) (h : ∀ f', nb (gDay T n (x, b)).2 (t + 1) f' → post (mkM th P n T f' k)) : wpX3_dayOn post (mkM th P n T f k) := by
  refine ⟨n + 1, ?_⟩
  have r := r_dayL (post := post) (th := th) (k := k) hT n 0 x b f (Nat.zero_add n) hn hB h
  rw [nI_0] at r
  exact r
theorem t_add {t : Int32} {m : Nat} : t + 1 + nI m = t + nI (m + 1) := by
  rw [Int32.add_assoc, ← nI_1, Int32.add_comm 1]
theorem r_daysL {post : MS → Prop} {m : Nat} (hm : m < 2 ^ 31) (hT : okT T n P) : ∀ (fu j : Nat) (x : Int32 × BS) (t : Int32) (f : Nat → Int32), j + fu = m → nb x.2 t f → okB n x.2 → (∀ f', nb (gFor (fun _ x => gDay T n x) fu j x).2 (t + nI fu) f' → post (mkM th P n T f' k)) → wpX3_daysOn_b2 post (nI m) (fu + 1) (nI j) (mkM th P n T f k) := by
  intro fu
  induction fu with
  | zero =>
    intro j x t f hj hn hB h
    rw [wpX3_daysOn_b2]
    refine br_t ((nI_leI (by omega) (by omega)).mpr (by omega)) (h f ?_)
    rw [nI_0, Int32.add_zero]
    exact hn
  | succ fu ih =>
    intro j x t f hj hn hB h
    rw [wpX3_daysOn_b2]
    refine br_f (fun z => by have := (nI_leI (by omega) (by omega)).mp z; omega) (r_dayOn (x := x.1) hT hn hB (fun f1 hn1 => ?_))
    rw [nI_1]
    refine ih (j + 1) (gDay T n x) (t + 1) f1 (by omega) hn1 (gDay_ok hT hB) (fun f2 hn2 => h f2 ?_)
    rw [t_add] at hn2
    exact hn2
theorem r_daysOn {post : MS → Prop} {m : Nat} (hm : m < 2 ^ 31) (hT : okT T n P) (hn : nb b t f) (hB : okB n b) (h : ∀ f', nb (gLive T n m b).2 (t + nI m) f' → post (mkM th P n T f' k)) : wpX3_daysOn post (mkM th P n T f k) (nI m) := by
  refine ⟨m + 1, ?_⟩
  have r := r_daysL (post := post) (th := th) (k := k) hm hT m 0 (0, b) t f (Nat.zero_add m) hn hB h
  rw [nI_0] at r
  exact r
theorem r_paidL {post : MS → Prop} (hT : okT T n P) (hd : d < 20) : ∀ (fu j : Nat) (b : BS) (f : Nat → Int32), j + fu = n → nb b t f → (∀ f', nb (gFor (gWake T d) fu j b) t f' → post (mkM th P n T f' k)) → wpX3_paid_b31 post (nI d) (fu + 1) (nI j) (mkM th P n T f k) := by
  have h20 := hT.2.1
  intro fu
  induction fu with
  | zero =>
    intro j b f hj hn h
    rw [wpX3_paid_b31]
    exact br_t ((r_cnt h20 (by omega)).mpr (by omega)) (h f hn)
  | succ fu ih =>
    intro j b f hj hn h
    have hj20 : j < 20 := by omega
    rw [wpX3_paid_b31]
    refine br_f (fun z => by have := (r_cnt h20 (by omega)).mp z; omega) ?_
    rw [g_cl hj20]
    have h : ∀ f', nb (gFor (gWake T d) fu (j + 1) (gWake T d j b)) t f' → post (mkM th P n T f' k) := h
    unfold wpX3_paid_b62
    rw [nI_1]
    refine ⟨g_vi hj20, fun c => r_state hn hj20 ⟨fun c2 => r_run hn hj20 (fun f1 hn1 => ?_), fun c2 => ?_⟩, fun c => ?_⟩
    · rw [gWake, if_pos ⟨c, c2⟩] at h
      exact ih (j + 1) _ f1 (by omega) hn1 h
    · rw [gWake, if_neg (fun z => c2 z.2)] at h
      exact ih (j + 1) _ f (by omega) hn h
    · rw [gWake, if_neg (fun z => c z.1)] at h
      exact ih (j + 1) _ f (by omega) hn h
theorem r_paid {post : MS → Prop} (hT : okT T n P) (hn : nb b t f) (hd : d < n) (h : ∀ f', nb (gSettle T n b d) t f' → post (mkM th P n T f' k)) : wpX3_paid post (mkM th P n T f k) (nI d) := by
  have h20 : d < 20 := Nat.lt_of_lt_of_le hd hT.2.1
  have hP := hT.2.2.1
  obtain ⟨⟨p, hp, ep⟩, ⟨q, hq, eq⟩, -⟩ := hT.2.2.2 d hd
  unfold wpX3_paid
  rw [g_cl h20]
  have e1 : (mkM th P n T f k).2.2.2.1 d = nI p := ep
  have e2 : (mkM th P n T f k).2.2.2.2.1 d = nI q := eq
  rw [e1, e2]
  have em : gMove T b (gPrice T b d) d = (gPay b.1 p q (gPrice T b d), b.2.1, b.2.2.1, b.2.2.2.1, b.2.2.2.2) := by
    unfold gMove
    rw [ep, eq, r_cl (by omega), r_cl (by omega)]
  refine ⟨g_vi h20, g_vi h20, r_price hn h20 (r_move hn (by omega) (by omega) (fun f1 hn1 => ?_))⟩
  rw [← em] at hn1
  refine r_end hn1 h20 (fun f2 hn2 => ⟨n - (d + 1) + 1, ?_⟩)
  rw [nI_1]
  exact r_paidL hT h20 _ _ _ _ (by omega) hn2 h
theorem gWake_ok (hT : okT T n P) {j : Nat} (hj : j < n) (hB : okB n b) : okB n (gWake T d j b) := by
  unfold gWake
  split
  · exact gBegin_ok (hT.2.2.2 j hj).2.2.2.1 hB
  · exact hB
theorem gSettle_ok (hT : okT T n P) (hd : d < n) (hB : okB n b) : okB n (gSettle T n b d) :=
  gFor_ind (n := n) (Pr := fun b : BS => okB n b) (fun j a hj ha => gWake_ok hT hj ha) _ _ _ (by omega) (gEnd_ok (by decide) (fun j hj => okD_eq (hB j hj) rfl rfl rfl))
theorem r_canPay {post : Int32 → Prop} (hT : okT T n P) (hn : nb b t f) (hd : d < n) (h1 : gCan T b d → post 1) (h0 : ¬ gCan T b d → post 0) : wpX3_canPay post (mkM th P n T f k) (nI d) := by
  have h20 : d < 20 := Nat.lt_of_lt_of_le hd hT.2.1
  have hP := hT.2.2.1
  obtain ⟨⟨p, hp, ep⟩, -⟩ := hT.2.2.2 d hd
  unfold wpX3_canPay
  rw [g_cl h20]
  have e1 : (mkM th P n T f k).2.2.2.1 d = nI p := ep
  rw [e1, e_2, c_68 (j := 2 + p) (by omega)]
  have ef : (mkM th P n T f k).2.2.2.2.2.2.2.2.2.2.1 (2 + p) = b.1 (T.1 d).toNatClampNeg := by
    rw [ep, r_cl (by omega)]
    exact hn.2.2.1 p (by omega)
  rw [ef]
  exact r_isOpen hn h20 (fun c => ⟨fun z => absurd z (by decide), fun _ => ⟨g_vi h20, v_68 (by omega), r_price hn h20 ⟨fun z => h0 (fun y => y.2 z), fun z => h1 ⟨c, z⟩⟩⟩⟩) (fun c => ⟨fun _ => h0 (fun z => c z.1), fun z => absurd rfl z⟩)
/-- how many of the first j duties are in the state v -/
def gCnt (b : BS) (v : Int32) : Nat → Int32
  | 0 => 0
  | j + 1 => gCnt b v j + (if b.2.1 j = v then 1 else 0)
theorem r_countL {post : Int32 → Prop} {v : Int32} (hT : okT T n P) (hn : nb b t f) (h : post (gCnt b v n)) : ∀ (fu j : Nat), j + fu = n → wpX3_count_b4 post (mkM th P n T f k) v (fu + 1) (gCnt b v j) (nI j) := by
  have h20 := hT.2.1
  intro fu
  induction fu with
  | zero =>
    intro j hj
    have e : j = n := by omega
    subst e
    rw [wpX3_count_b4]
    exact br_t ((r_cnt h20 (by omega)).mpr (by omega)) h
  | succ fu ih =>
    intro j hj
    have hj20 : j < 20 := by omega
    rw [wpX3_count_b4]
    refine br_f (fun z => by have := (r_cnt h20 (by omega)).mp z; omega) ?_
    have r := ih (j + 1) (by omega)
    unfold wpX3_count_b27
    rw [nI_1]
    refine r_state hn hj20 ⟨fun c => ?_, fun c => ?_⟩
    · rw [gCnt, if_pos c] at r
      exact r
    · rw [gCnt, if_neg c] at r
      exact r
theorem r_count {post : Int32 → Prop} {v : Int32} (hT : okT T n P) (hn : nb b t f) (h : post (gCnt b v n)) : wpX3_count post (mkM th P n T f k) v := by
  refine ⟨n + 1, ?_⟩
  have r := r_countL (post := post) (th := th) (k := k) hT hn h n 0 (Nat.zero_add n)
  rw [nI_0] at r
  exact r
-- failures counted
theorem i_sub1 (x c : Int32) : x + 1 - (c + 1) = x - c := by
  rw [Int32.sub_eq_add_neg (x + 1), Int32.neg_add, Int32.sub_eq_add_neg (-c), Int32.add_assoc x, Int32.add_comm (-c), ← Int32.add_assoc 1, show (1 : Int32) + -1 = 0 by decide, Int32.zero_add, ← Int32.sub_eq_add_neg]
theorem gCnt_same {b b' : BS} {v : Int32} : ∀ m, (∀ j, j < m → (b'.2.1 j = v ↔ b.2.1 j = v)) → gCnt b' v m = gCnt b v m := by
  intro m
  induction m with
  | zero => exact fun _ => rfl
  | succ m ih =>
    intro h
    rw [gCnt, gCnt, ih (fun j hj => h j (by omega))]
    by_cases c : b.2.1 m = v
    · rw [if_pos c, if_pos ((h m (by omega)).mpr c)]
    · rw [if_neg c, if_neg (fun z => c ((h m (by omega)).mp z))]
theorem gCnt_one {b b' : BS} {v : Int32} {d : Nat} (h1 : b'.2.1 d = v) (h2 : ¬ b.2.1 d = v) : ∀ m, d < m → (∀ j, j < m → j ≠ d → (b'.2.1 j = v ↔ b.2.1 j = v)) → gCnt b' v m = gCnt b v m + 1 := by
  intro m
  induction m with
  | zero => exact fun h => absurd h (Nat.not_lt_zero d)
  | succ m ih =>
    intro hd h
    rw [gCnt, gCnt]
    by_cases e : d = m
    · subst e
      rw [if_pos h1, if_neg h2, gCnt_same d (fun j hj => h j (by omega) (by omega)), Int32.add_zero]
    · rw [ih (by omega) (fun j hj hne => h j (by omega) hne)]
      by_cases c : b.2.1 m = v
      · rw [if_pos c, if_pos ((h m (by omega) (Ne.symm e)).mpr c)]
      · rw [if_neg c, if_neg (fun z => c ((h m (by omega) (Ne.symm e)).mp z)), Int32.add_zero, Int32.add_zero]
theorem gRel1_st {j : Nat} {x : Int32 × BS} {i : Nat} : ((gRel1 T j x).2.2.1 i = 4 ↔ x.2.2.1 i = 4) := by
  unfold gRel1
  split
  · rename_i c
    by_cases e : i = j
    · subst e
      have e1 : (upd x.2.2.1 i 5) i = 5 := pk_us
      show upd x.2.2.1 i 5 i = 4 ↔ _
      rw [e1, c.1]
      decide
    · have e1 : (upd x.2.2.1 j 5) i = x.2.2.1 i := pk_un e
      show upd x.2.2.1 j 5 i = 4 ↔ _
      rw [e1]
  · exact Iff.rfl
theorem gRelF_st {i : Nat} : ∀ (fu j : Nat) (x : Int32 × BS), ((gFor (gRel1 T) fu j x).2.2.1 i = 4 ↔ x.2.2.1 i = 4) := by
  intro fu
  induction fu with
  | zero => exact fun j x => Iff.rfl
  | succ fu ih => exact fun j x => (ih (j + 1) (gRel1 T j x)).trans gRel1_st
theorem gFail_st {i : Nat} : ((gFail T n b d).2.1 i = 4 ↔ i = d ∨ b.2.1 i = 4) := by
  refine (gRelF_st _ _ _).trans ?_
  show upd b.2.1 d 4 i = 4 ↔ _
  by_cases e : i = d
  · subst e
    exact ⟨fun _ => Or.inl rfl, fun _ => pk_us⟩
  · rw [pk_un e]
    exact ⟨Or.inr, fun z => z.resolve_left e⟩
theorem gTick_st {i : Nat} (ho : gOp b d) : ((gTick T b d).2.2.1 i = 4 ↔ b.2.1 i = 4) := by
  have hl : ∀ v w, ((gLate (gLeft b d v) d w).2.1 i = 4 ↔ b.2.1 i = 4) := by
    intro v w
    show upd b.2.1 d 2 i = 4 ↔ _
    by_cases e : i = d
    · subst e
      rw [pk_us]
      rcases ho with c | c <;> rw [c] <;> decide
    · rw [pk_un e]
  unfold gTick
  split
  · split
    · split
      · exact hl _ _
      · exact Iff.rfl
    · exact Iff.rfl
  · exact Iff.rfl
theorem gDay1_cnt {j : Nat} (hj : j < n) {x : Int32} : (gDay1 T n j (x, b)).1 - gCnt (gDay1 T n j (x, b)).2 4 n = x - gCnt b 4 n := by
  unfold gDay1
  by_cases c : gOp b j
  · rw [if_pos c]
    have hs : gCnt (gTick T b j).2 4 n = gCnt b 4 n := gCnt_same n (fun i _ => gTick_st c)
    by_cases c2 : (gTick T b j).1 = true
    · rw [if_pos c2]
      have h1 : gCnt (gFail T n (gTick T b j).2 j) 4 n = gCnt (gTick T b j).2 4 n + 1 := by
        refine gCnt_one (d := j) (gFail_st.mpr (Or.inl rfl)) (fun z => ?_) n hj (fun i _ hne => ⟨fun z => (gFail_st.mp z).resolve_left hne, fun z => gFail_st.mpr (Or.inr z)⟩)
        have z2 := (gTick_st c).mp z
        rcases c with c | c <;> rw [c] at z2 <;> exact absurd z2 (by decide)
      show x + 1 - gCnt (gFail T n (gTick T b j).2 j) 4 n = x - gCnt b 4 n
      rw [h1, hs, i_sub1]
    · rw [if_neg c2]
      show x - gCnt (gTick T b j).2 4 n = x - gCnt b 4 n
      rw [hs]
  · rw [if_neg c]
theorem gDayF_cnt : ∀ (fu j : Nat) (x : Int32 × BS), j + fu ≤ n → (gFor (gDay1 T n) fu j x).1 - gCnt (gFor (gDay1 T n) fu j x).2 4 n = x.1 - gCnt x.2 4 n := by
  intro fu
  induction fu with
  | zero => exact fun j x _ => rfl
  | succ fu ih => exact fun j x hj => (ih (j + 1) (gDay1 T n j x) (by omega)).trans (gDay1_cnt (x := x.1) (b := x.2) (by omega))
theorem gLiveF_cnt : ∀ (fu j : Nat) (x : Int32 × BS), (gFor (fun _ x => gDay T n x) fu j x).1 - gCnt (gFor (fun _ x => gDay T n x) fu j x).2 4 n = x.1 - gCnt x.2 4 n := by
  intro fu
  induction fu with
  | zero => exact fun j x => rfl
  | succ fu ih => exact fun j x => (ih (j + 1) (gDay T n x)).trans (gDayF_cnt n 0 x (by omega))
theorem gLive_cnt {m : Nat} : (gLive T n m b).1 = gCnt (gLive T n m b).2 4 n - gCnt b 4 n := by
  have h := gLiveF_cnt (T := T) (n := n) m 0 (0, b)
  have e : (gLive T n m b).1 - gCnt (gLive T n m b).2 4 n = 0 - gCnt b 4 n := h
  have e2 : (gLive T n m b).1 = gCnt (gLive T n m b).2 4 n + ((gLive T n m b).1 - gCnt (gLive T n m b).2 4 n) := by
    rw [Int32.add_comm, Int32.sub_add_cancel]
  rw [e2, e, Int32.zero_sub, ← Int32.sub_eq_add_neg]
end PS

/-! THE REFERENCE'S ROW OF NUMBERS, against a book: what each wp asks. -/
abbrev mkM (th : Int32) (P n : Nat) (T : TS) (f k : Nat → Int32) : MS := (th, nI P, nI n, T.1, T.2.1, T.2.2.1, T.2.2.2.1, T.2.2.2.2.1, T.2.2.2.2.2.1, T.2.2.2.2.2.2.1, f, k)
/-- the row f says what the book b and the day t say -/
def nb (b : BS) (t : Int32) (f : Nat → Int32) : Prop := f 0 = t ∧ f 1 = b.2.2.2.2 ∧ (∀ p, p < 6 → f (2 + p) = b.1 p) ∧ ∀ d, d < 20 → f (8 + d) = b.2.1 d ∧ f (28 + d) = b.2.2.1 d ∧ f (48 + d) = b.2.2.2.1 d
section NB
variable {b : BS} {t : Int32} {f : Nat → Int32} {d : Nat} {v : Int32}
theorem nb_st (h : nb b t f) (hd : d < 20) : nb (b.1, upd b.2.1 d v, b.2.2.1, b.2.2.2.1, b.2.2.2.2) t (upd f (8 + d) v) := by
  obtain ⟨h0, h1, h2, h3⟩ := h
  refine ⟨(pk_un (by omega)).trans h0, (pk_un (by omega)).trans h1, fun p hp => (pk_un (by omega)).trans (h2 p hp), fun j hj => ⟨?_, (pk_un (by omega)).trans (h3 j hj).2.1, (pk_un (by omega)).trans (h3 j hj).2.2⟩⟩
  by_cases e : j = d
  · subst e
    exact pk_us.trans pk_us.symm
  · exact (pk_un (by omega)).trans ((h3 j hj).1.trans (pk_un e).symm)
theorem nb_lf (h : nb b t f) (hd : d < 20) : nb (b.1, b.2.1, upd b.2.2.1 d v, b.2.2.2.1, b.2.2.2.2) t (upd f (28 + d) v) := by
  obtain ⟨h0, h1, h2, h3⟩ := h
  refine ⟨(pk_un (by omega)).trans h0, (pk_un (by omega)).trans h1, fun p hp => (pk_un (by omega)).trans (h2 p hp), fun j hj => ⟨(pk_un (by omega)).trans (h3 j hj).1, ?_, (pk_un (by omega)).trans (h3 j hj).2.2⟩⟩
  by_cases e : j = d
  · subst e
    exact pk_us.trans pk_us.symm
  · exact (pk_un (by omega)).trans ((h3 j hj).2.1.trans (pk_un e).symm)
theorem nb_sp (h : nb b t f) (hd : d < 20) : nb (b.1, b.2.1, b.2.2.1, upd b.2.2.2.1 d v, b.2.2.2.2) t (upd f (48 + d) v) := by
  obtain ⟨h0, h1, h2, h3⟩ := h
  refine ⟨(pk_un (by omega)).trans h0, (pk_un (by omega)).trans h1, fun p hp => (pk_un (by omega)).trans (h2 p hp), fun j hj => ⟨(pk_un (by omega)).trans (h3 j hj).1, (pk_un (by omega)).trans (h3 j hj).2.1, ?_⟩⟩
  by_cases e : j = d
  · subst e
    exact pk_us.trans pk_us.symm
  · exact (pk_un (by omega)).trans ((h3 j hj).2.2.trans (pk_un e).symm)
theorem nb_pu {p : Nat} (h : nb b t f) (hp : p < 6) : nb (upd b.1 p v, b.2.1, b.2.2.1, b.2.2.2.1, b.2.2.2.2) t (upd f (2 + p) v) := by
  obtain ⟨h0, h1, h2, h3⟩ := h
  refine ⟨(pk_un (by omega)).trans h0, (pk_un (by omega)).trans h1, fun j hj => ?_, fun j hj => ⟨(pk_un (by omega)).trans (h3 j hj).1, (pk_un (by omega)).trans (h3 j hj).2.1, (pk_un (by omega)).trans (h3 j hj).2.2⟩⟩
  by_cases e : j = p
  · subst e
    exact pk_us.trans pk_us.symm
  · exact (pk_un (by omega)).trans ((h2 j hj).trans (pk_un e).symm)
theorem nb_tk (h : nb b t f) : nb (b.1, b.2.1, b.2.2.1, b.2.2.2.1, v) t (upd f 1 v) := by
  obtain ⟨h0, h1, h2, h3⟩ := h
  exact ⟨(pk_un (by omega)).trans h0, pk_us, fun p hp => (pk_un (by omega)).trans (h2 p hp), fun j hj => ⟨(pk_un (by omega)).trans (h3 j hj).1, (pk_un (by omega)).trans (h3 j hj).2.1, (pk_un (by omega)).trans (h3 j hj).2.2⟩⟩
theorem nb_day (h : nb b t f) : nb b v (upd f 0 v) := by
  obtain ⟨h0, h1, h2, h3⟩ := h
  exact ⟨pk_us, (pk_un (by omega)).trans h1, fun p hp => (pk_un (by omega)).trans (h2 p hp), fun j hj => ⟨(pk_un (by omega)).trans (h3 j hj).1, (pk_un (by omega)).trans (h3 j hj).2.1, (pk_un (by omega)).trans (h3 j hj).2.2⟩⟩
theorem e_8 (d : Nat) : (8 : Int32) + nI d = nI (8 + d) := nI_add 8 d
theorem e_28 (d : Nat) : (28 : Int32) + nI d = nI (28 + d) := nI_add 28 d
theorem e_48 (d : Nat) : (48 : Int32) + nI d = nI (48 + d) := nI_add 48 d
theorem e_2 (d : Nat) : (2 : Int32) + nI d = nI (2 + d) := nI_add 2 d
theorem v_68 {j : Nat} (h : j < 68) : vp_in (nI j) 68 := vp_in_nI h (by decide)
theorem c_68 {j : Nat} (h : j < 68) : (nI j).toNatClampNeg = j := nI_clamp (by omega)
end NB
/-- what a book holds of a duty -/
def okD (b : BS) (d : Nat) : Prop := ((b.2.1 d = 0 ∨ b.2.1 d = 3 ∨ b.2.1 d = 4 ∨ b.2.1 d = 5) ∧ b.2.2.1 d = 0 ∧ b.2.2.2.1 d = 0) ∨ (b.2.1 d = 1 ∧ (∃ l, 1 ≤ l ∧ l ≤ 30 ∧ b.2.2.1 d = nI l) ∧ ∃ s, s ≤ 20 ∧ b.2.2.2.1 d = nI s) ∨ (b.2.1 d = 2 ∧ (∃ l, 1 ≤ l ∧ l ≤ 10 ∧ b.2.2.1 d = nI l) ∧ ∃ s, s ≤ 20 ∧ b.2.2.2.1 d = nI s)
def okB (n : Nat) (b : BS) : Prop := ∀ d, d < n → okD b d
section RF
variable {th t : Int32} {P n : Nat} {T : TS} {f k : Nat → Int32} {b : BS} {d : Nat}
theorem r_state {post : Int32 → Prop} (hn : nb b t f) (hd : d < 20) (h : post (b.2.1 d)) : wpX3_state post (mkM th P n T f k) (nI d) := by
  unfold wpX3_state
  rw [e_8, c_68 (by omega)]
  refine ⟨v_68 (by omega), ?_⟩
  show post (f (8 + d))
  rw [(hn.2.2.2 d hd).1]
  exact h
theorem r_isOpen {post : Int32 → Prop} (hn : nb b t f) (hd : d < 20) (h1 : gOp b d → post 1) (h0 : ¬ gOp b d → post 0) : wpX3_isOpen post (mkM th P n T f k) (nI d) := by
  unfold wpX3_isOpen
  exact r_state hn hd ⟨fun c => h1 (Or.inl c), fun c => r_state hn hd ⟨fun c2 => h1 (Or.inr c2), fun c2 => h0 (fun z => z.elim c c2)⟩⟩
theorem r_price {post : Int32 → Prop} (hn : nb b t f) (hd : d < 20) (h : post (gPrice T b d)) : wpX3_price post (mkM th P n T f k) (nI d) := by
  unfold wpX3_price
  rw [g_cl hd]
  refine r_state hn hd ⟨fun c => ⟨g_vi hd, ?_⟩, fun c => r_state hn hd ⟨fun c2 => ⟨g_vi hd, g_vi hd, ?_⟩, fun c2 => ?_⟩⟩
  · rw [gPrice, if_pos c] at h
    exact h
  · rw [gPrice, if_neg c, if_pos c2] at h
    exact h
  · rw [gPrice, if_neg c, if_neg c2] at h
    exact h
theorem r_run {post : MS → Prop} (hn : nb b t f) (hd : d < 20) (h : ∀ f', nb (gBegin T b d) t f' → post (mkM th P n T f' k)) : wpX3_run post (mkM th P n T f k) (nI d) := by
  unfold wpX3_run
  rw [e_8, e_28, e_48, c_68 (j := 8 + d) (by omega), c_68 (j := 28 + d) (by omega), c_68 (j := 48 + d) (by omega), g_cl hd]
  exact ⟨v_68 (by omega), g_vi hd, v_68 (by omega), v_68 (by omega), h _ (nb_sp (nb_lf (nb_st hn hd) hd) hd)⟩
theorem r_end {post : MS → Prop} {v : Int32} (hn : nb b t f) (hd : d < 20) (h : ∀ f', nb (gEnd b d v) t f' → post (mkM th P n T f' k)) : wpX3_end post (mkM th P n T f k) (nI d) v := by
  unfold wpX3_end
  rw [e_8, e_28, e_48, c_68 (j := 8 + d) (by omega), c_68 (j := 28 + d) (by omega), c_68 (j := 48 + d) (by omega)]
  exact ⟨v_68 (by omega), v_68 (by omega), v_68 (by omega), h _ (nb_sp (nb_lf (nb_st hn hd) hd) hd)⟩
theorem r_move {post : MS → Prop} {c : Int32} {p q : Nat} (hn : nb b t f) (hp : p < 6) (hq : q < 6) (h : ∀ f', nb (gPay b.1 p q c, b.2.1, b.2.2.1, b.2.2.2.1, b.2.2.2.2) t f' → post (mkM th P n T f' k)) : wpX3_move post (mkM th P n T f k) (nI p) (nI q) c := by
  unfold wpX3_move
  rw [e_2, e_2, c_68 (j := 2 + p) (by omega), c_68 (j := 2 + q) (by omega)]
  refine ⟨v_68 (by omega), v_68 (by omega), v_68 (by omega), v_68 (by omega), h _ ?_⟩
  have k1 := nb_pu (v := b.1 p - c) hn hp
  have k2 := nb_pu (v := upd b.1 p (b.1 p - c) q + c) k1 hq
  have e1 : f (2 + p) = b.1 p := hn.2.2.1 p hp
  have e2 : upd f (2 + p) (b.1 p - c) (2 + q) = upd b.1 p (b.1 p - c) q := k1.2.2.1 q hq
  show nb _ t (upd (upd f (2 + p) (f (2 + p) - c)) (2 + q) (upd f (2 + p) (f (2 + p) - c) (2 + q) + c))
  rw [e1, e2]
  exact k2
theorem r_cnt (h20 : n ≤ 20) {j : Nat} (hj : j ≤ n) : ((mkM th P n T f k).2.2.1 ≤ nI j) ↔ j = n := by
  show nI n ≤ nI j ↔ j = n
  rw [nI_leI (by omega) (by omega)]
  omega
theorem okW {b : BS} {d : Nat} (h : okD b d) (h0 : b.2.1 d = 0) : b.2.2.1 d = 0 ∧ b.2.2.2.1 d = 0 := by
  rcases h with h | h | h
  · exact h.2
  · exact absurd (h0.symm.trans h.1) (by decide)
  · exact absurd (h0.symm.trans h.1) (by decide)
theorem w_same {g : Nat → Int32} {k : Nat} {v : Int32} (h : g k = v) : upd g k v = g := by
  funext j
  by_cases e : j = k
  · subst e
    exact pk_us.trans h.symm
  · exact pk_un e
theorem gRel1_ok {k : Nat} {x : Int32 × BS} {j : Nat} (h : okD x.2 j) : okD (gRel1 T k x).2 j := by
  unfold gRel1
  split
  · rename_i c
    by_cases e : j = k
    · subst e
      have w := okW h c.1
      exact Or.inl ⟨Or.inr (Or.inr (Or.inr pk_us)), w.1, w.2⟩
    · have e1 : upd x.2.2.1 k 5 j = x.2.2.1 j := pk_un e
      unfold okD
      show ((upd x.2.2.1 k 5 j = 0 ∨ upd x.2.2.1 k 5 j = 3 ∨ upd x.2.2.1 k 5 j = 4 ∨ upd x.2.2.1 k 5 j = 5) ∧ _) ∨ (upd x.2.2.1 k 5 j = 1 ∧ _) ∨ (upd x.2.2.1 k 5 j = 2 ∧ _)
      rw [e1]
      exact h
  · exact h
theorem r_relL {post : Int32 → MS → Prop} {p0 : Int32} (hT : okT T n P) : ∀ (fu j : Nat) (x : Int32) (b : BS) (f : Nat → Int32), j + fu = n → nb b t f → okB n b → (∀ f', nb (gFor (gRel1 T) fu j (x, b)).2 t f' → post (gFor (gRel1 T) fu j (x, b)).1 (mkM th P n T f' k)) → wpX3_releaseBehind_b6 post p0 (fu + 1) x (nI j) (mkM th P n T f k) := by
  have h20 := hT.2.1
  intro fu
  induction fu with
  | zero =>
    intro j x b f hj hn hB h
    rw [wpX3_releaseBehind_b6]
    exact br_t ((r_cnt h20 (by omega)).mpr (by omega)) (h f hn)
  | succ fu ih =>
    intro j x b f hj hn hB h
    have hj20 : j < 20 := by omega
    rw [wpX3_releaseBehind_b6]
    refine br_f (fun z => by have := (r_cnt h20 (by omega)).mp z; omega) ?_
    rw [g_cl hj20]
    have h : ∀ f', nb (gFor (gRel1 T) fu (j + 1) (gRel1 T j (x, b))).2 t f' → post (gFor (gRel1 T) fu (j + 1) (gRel1 T j (x, b))).1 (mkM th P n T f' k) := h
    have hB' : okB n (gRel1 T j (x, b)).2 := fun i hi => gRel1_ok (hB i hi)
    have keep : ¬ (b.2.1 j = 0 ∧ gGone b (T.2.2.2.2.2.2.1 j)) → wpX3_releaseBehind_b71 post p0 (fun z0 z1 z2 => wpX3_releaseBehind_b6 post p0 (fu + 1) z0 z1 z2) x (nI j) (mkM th P n T f k) := by
      intro c
      have e : gRel1 T j (x, b) = (x, b) := if_neg c
      rw [e] at h
      unfold wpX3_releaseBehind_b71
      rw [nI_1]
      exact ih (j + 1) x b f (by omega) hn hB h
    have go : b.2.1 j = 0 ∧ gGone b (T.2.2.2.2.2.2.1 j) → wpX3_releaseBehind_b62 post p0 (fun z0 z1 z2 => wpX3_releaseBehind_b6 post p0 (fu + 1) z0 z1 z2) x (nI j) (mkM th P n T f k) := by
      intro c
      have e : gRel1 T j (x, b) = (x + 1, (b.1, upd b.2.1 j 5, b.2.2.1, b.2.2.2.1, b.2.2.2.2)) := if_pos c
      have w := okW (hB j (by omega)) c.1
      have e2 : gEnd b j 5 = (b.1, upd b.2.1 j 5, b.2.2.1, b.2.2.2.1, b.2.2.2.2) := by
        unfold gEnd
        rw [w_same w.1, w_same w.2]
      rw [e] at h hB'
      unfold wpX3_releaseBehind_b62 wpX3_releaseBehind_b71
      refine r_end hn hj20 (fun f' hn' => ?_)
      rw [e2] at hn'
      rw [nI_1]
      exact ih (j + 1) _ _ f' (by omega) hn' hB' h
    refine r_state hn hj20 ⟨fun c => ⟨g_vi hj20, fun c2 => keep (fun z => z.2.1 c2), fun c2 => ⟨g_vi hj20, ?_⟩⟩, fun c => keep (fun z => c z.1)⟩
    have ha := (hT.2.2.2 j (by omega)).2.2.2.2.2.2.resolve_left c2
    obtain ⟨i, hi, ei⟩ := ha
    have ea : (mkM th P n T f k).2.2.2.2.2.2.2.2.2.1 j = nI i := ei
    have ec : (T.2.2.2.2.2.2.1 j).toNatClampNeg = i := by rw [ei]; exact g_cl (by omega)
    rw [ea]
    refine r_state hn (by omega) ⟨fun c3 => go ⟨c, c2, Or.inl (by rw [ec]; exact c3)⟩, fun c3 => ⟨fun c4 => go ⟨c, c2, Or.inr (by rw [ec]; exact c4)⟩, fun c4 => keep (fun z => ?_)⟩⟩
    have z2 := z.2.2
    rw [ec] at z2
    exact z2.elim c3 c4
theorem r_release {post : Int32 → MS → Prop} (hT : okT T n P) (hn : nb b t f) (hB : okB n b) (hd : d < n) (h : ∀ f', nb (gRel T n b d).2 t f' → post (gRel T n b d).1 (mkM th P n T f' k)) : wpX3_releaseBehind post (mkM th P n T f k) (nI d) := by
  unfold wpX3_releaseBehind
  refine ⟨n - (d + 1) + 1, ?_⟩
  rw [nI_1]
  exact r_relL hT _ _ _ _ _ (by omega) hn hB h
end RF

/-! The reference's row more. -/
theorem r_add {post : Int32 → MS → Prop} {T : TS} {n P : Nat} {b : BS} {th t : Int32} {f k : Nat → Int32} {p0 p1 p2 p3 p4 p5 p6 dp sg sl : Int32} (hn20 : n < 20) (hn : nb b t f) (hB : okB n b) (h6 : p6 = -1 ∨ ∃ u, u < n ∧ p6 = nI u)
    (h : ∀ f', nb (gEnter (addT T n p0 p1 p2 p3 p4 p5 p6 dp sg sl) b n) t f' → post (nI n) (mkM th P (n + 1) (addT T n p0 p1 p2 p3 p4 p5 p6 dp sg sl) f' k)) : wpX3_addDuty_b127 post p0 p1 p2 p3 p4 p5 p6 (mkM th P n T f k) := by
  have v := g_vi hn20
  have ea : (addT T n p0 p1 p2 p3 p4 p5 p6 dp sg sl).2.2.2.2.2.2.1 n = p6 := pk_us
  unfold wpX3_addDuty_b127 wpX3_addDuty_b229
  have e0 : (mkM th P n T f k).2.2.1 = nI n := rfl
  rw [e0, g_cl hn20, nI_1]
  refine ⟨v, v, v, v, v, v, v, fun c => ?_, fun c => ?_⟩
  · have e : gEnter (addT T n p0 p1 p2 p3 p4 p5 p6 dp sg sl) b n = gBegin (addT T n p0 p1 p2 p3 p4 p5 p6 dp sg sl) b n := by rw [gEnter, ea, if_pos c]
    rw [e] at h
    exact r_run (th := th) (P := P) (n := n + 1) (T := addT T n p0 p1 p2 p3 p4 p5 p6 dp sg sl) (f := f) (k := k) hn hn20 h
  · obtain ⟨u, u1, u2⟩ := h6.resolve_left c
    have hu : (nI u).toNatClampNeg = u := g_cl (by omega)
    subst u2
    have hk := hB u u1
    refine r_state (th := th) (P := P) (n := n + 1) (T := addT T n p0 p1 p2 p3 p4 p5 (nI u) dp sg sl) (f := f) (k := k) hn (by omega) ⟨fun c3 => ?_, fun c3 => ?_⟩
    · have e : gEnter (addT T n p0 p1 p2 p3 p4 p5 (nI u) dp sg sl) b n = gBegin (addT T n p0 p1 p2 p3 p4 p5 (nI u) dp sg sl) b n := by
        rw [gEnter, ea, if_neg c, hu, if_neg]
        rintro (g | g | g) <;> rw [g] at c3 <;> exact absurd c3 (by decide)
      rw [e] at h
      exact r_run (th := th) (P := P) (n := n + 1) (T := addT T n p0 p1 p2 p3 p4 p5 (nI u) dp sg sl) (f := f) (k := k) hn hn20 h
    · have e : gEnter (addT T n p0 p1 p2 p3 p4 p5 (nI u) dp sg sl) b n = gEnd b n 0 := by
        rw [gEnter, ea, if_neg c, hu, if_pos]
        rcases hk with g | g | g
        · rcases g.1 with g | g | g | g
          · exact Or.inl g
          · rw [g] at c3
            exact absurd (by decide) c3
          · rw [g] at c3
            exact absurd (by decide) c3
          · rw [g] at c3
            exact absurd (by decide) c3
        · exact Or.inr (Or.inl g.1)
        · exact Or.inr (Or.inr g.1)
      rw [e] at h
      exact r_end (th := th) (P := P) (n := n + 1) (T := addT T n p0 p1 p2 p3 p4 p5 (nI u) dp sg sl) (f := f) (k := k) hn hn20 h
theorem gEnter_ok {T : TS} {n P : Nat} {b : BS} (hT : okT T (n + 1) P) (hB : okB n b) : okB (n + 1) (gEnter T b n) := by
  have key : ∀ j, j < n + 1 → j ≠ n → okD b j := fun j hj e => hB j (by omega)
  have hd := (hT.2.2.2 n (by omega)).2.2.2.1
  have h1 : okB (n + 1) (gBegin T b n) := fun j hj => by
    by_cases e : j = n
    · subst e
      obtain ⟨a, a1, a2, a3⟩ := hd
      exact Or.inr (Or.inl ⟨pk_us, ⟨a, a1, a2, pk_us.trans a3⟩, 0, by omega, pk_us⟩)
    · exact okD_eq (key j hj e) (pk_un e) (pk_un e) (pk_un e)
  have h2 : okB (n + 1) (gEnd b n 0) := fun j hj => by
    by_cases e : j = n
    · subst e
      exact gEnd_at (by decide)
    · exact gEnd_ne e (key j hj e)
  unfold gEnter
  split
  · exact h1
  · split
    · exact h2
    · exact h1

/-! ONE DUTY MORE: the terms with a row more. -/
def addT (T : TS) (n : Nat) (p0 p1 p2 p3 p4 p5 p6 dp sg sl : Int32) : TS := (upd T.1 n p0, upd T.2.1 n p1, upd T.2.2.1 n p2, upd T.2.2.2.1 n p3, upd T.2.2.2.2.1 n p4, upd T.2.2.2.2.2.1 n p5, upd T.2.2.2.2.2.2.1 n p6, upd T.2.2.2.2.2.2.2.1 n dp, upd T.2.2.2.2.2.2.2.2.1 n sg, upd T.2.2.2.2.2.2.2.2.2.1 n sl, nI (n + 1))
section AD
variable {T : TS} {n P : Nat} {p0 p1 p2 p3 p4 p5 p6 dp sg sl : Int32}
theorem okT_add (hT : okT T n P) (hn : n < 20) (h0 : ∃ p, p < P ∧ p0 = nI p) (h1 : ∃ p, p < P ∧ p1 = nI p) (h2 : ∃ a, 1 ≤ a ∧ a ≤ 50 ∧ p2 = nI a) (h3 : ∃ a, 1 ≤ a ∧ a ≤ 30 ∧ p3 = nI a) (h4 : ∃ a, a ≤ 10 ∧ p4 = nI a) (h5 : ∃ a, a ≤ 20 ∧ p5 = nI a) (h6 : p6 = -1 ∨ ∃ k, k < n ∧ p6 = nI k) : okT (addT T n p0 p1 p2 p3 p4 p5 p6 dp sg sl) (n + 1) P := by
  refine ⟨rfl, by omega, hT.2.2.1, fun d hd => ?_⟩
  by_cases e : d = n
  · subst e
    obtain ⟨a0, b0, c0⟩ := h0
    obtain ⟨a1, b1, c1⟩ := h1
    obtain ⟨a2, b2, d2, c2⟩ := h2
    obtain ⟨a3, b3, d3, c3⟩ := h3
    obtain ⟨a4, b4, c4⟩ := h4
    obtain ⟨a5, b5, c5⟩ := h5
    refine ⟨⟨a0, b0, pk_us.trans c0⟩, ⟨a1, b1, pk_us.trans c1⟩, ⟨a2, b2, d2, pk_us.trans c2⟩, ⟨a3, b3, d3, pk_us.trans c3⟩, ⟨a4, b4, pk_us.trans c4⟩, ⟨a5, b5, pk_us.trans c5⟩, ?_⟩
    rcases h6 with h6 | ⟨k, k1, k2⟩
    · exact Or.inl (pk_us.trans h6)
    · exact Or.inr ⟨k, k1, pk_us.trans k2⟩
  · obtain ⟨⟨a0, b0, c0⟩, ⟨a1, b1, c1⟩, ⟨a2, b2, d2, c2⟩, ⟨a3, b3, d3, c3⟩, ⟨a4, b4, c4⟩, ⟨a5, b5, c5⟩, g⟩ := hT.2.2.2 d (by omega)
    refine ⟨⟨a0, b0, (pk_un e).trans c0⟩, ⟨a1, b1, (pk_un e).trans c1⟩, ⟨a2, b2, d2, (pk_un e).trans c2⟩, ⟨a3, b3, d3, (pk_un e).trans c3⟩, ⟨a4, b4, (pk_un e).trans c4⟩, ⟨a5, b5, (pk_un e).trans c5⟩, ?_⟩
    rcases g with g | ⟨k, k1, k2⟩
    · exact Or.inl ((pk_un e).trans g)
    · exact Or.inr ⟨k, k1, (pk_un e).trans k2⟩
theorem depN_le : ∀ (m d : Nat), depN T m d → m ≤ d := by
  intro m
  induction m with
  | zero => exact fun d _ => Nat.zero_le d
  | succ m ih =>
    rintro d ⟨k, k1, -, k3⟩
    have := ih k k3
    omega
theorem depN_add : ∀ (m d : Nat), d < n → depN T m d → depN (addT T n p0 p1 p2 p3 p4 p5 p6 dp sg sl) m d := by
  intro m
  induction m with
  | zero => exact fun d hd h => (pk_un (by omega)).trans h
  | succ m ih =>
    rintro d hd ⟨k, k1, k2, k3⟩
    exact ⟨k, k1, (pk_un (by omega)).trans k2, ih k (by omega) k3⟩
theorem okE_add (hE : okE T n) (hn : n < 20) (h : (p6 = -1 ∧ dp = 0) ∨ ∃ u, u < n ∧ p6 = nI u ∧ dp = T.2.2.2.2.2.2.2.1 u + 1) : okE (addT T n p0 p1 p2 p3 p4 p5 p6 dp sg sl) (n + 1) := by
  intro d hd
  by_cases e : d = n
  · subst e
    rcases h with ⟨h1, h2⟩ | ⟨u, u1, u2, u3⟩
    · exact ⟨0, by omega, pk_us.trans (h2.trans nI_0.symm), pk_us.trans h1⟩
    · obtain ⟨m, m1, m2, m3⟩ := hE u u1
      have ml := depN_le m u m3
      refine ⟨m + 1, by omega, pk_us.trans ?_, u, u1, pk_us.trans u2, depN_add m u u1 m3⟩
      rw [u3, m2, nI_1]
  · obtain ⟨m, m1, m2, m3⟩ := hE d (by omega)
    exact ⟨m, m1, (pk_un e).trans m2, depN_add m d (by omega) m3⟩
theorem txD_add {d : Nat} (e : d ≠ n) : txD (addT T n p0 p1 p2 p3 p4 p5 p6 dp sg sl) d = txD T d := by
  unfold txD addT
  dsimp only
  simp only [pk_un e]
theorem okG_add (hG : okG T n) (h1 : sg = nI (txD (addT T n p0 p1 p2 p3 p4 p5 p6 dp sg sl) n).2) (h2 : sl = gSeal (txD (addT T n p0 p1 p2 p3 p4 p5 p6 dp sg sl) n).1 (txD (addT T n p0 p1 p2 p3 p4 p5 p6 dp sg sl) n).2) : okG (addT T n p0 p1 p2 p3 p4 p5 p6 dp sg sl) (n + 1) := by
  intro d hd
  by_cases e : d = n
  · subst e
    exact ⟨pk_us.trans h1, pk_us.trans h2⟩
  · rw [txD_add e]
    obtain ⟨g1, g2⟩ := hG d (by omega)
    exact ⟨(pk_un e).trans g1, (pk_un e).trans g2⟩
end AD

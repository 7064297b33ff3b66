/-! addDuty's refusals, on both sides. -/
def ok1 (p0 p1 p2 p3 p4 p5 : Int32) : Prop := ¬ p0 = p1 ∧ (¬ p2 < 1 ∧ p2 ≤ 50) ∧ (¬ p3 < 1 ∧ p3 ≤ 30) ∧ (¬ p4 < 0 ∧ p4 ≤ 10) ∧ (¬ p5 < 0 ∧ p5 ≤ 20)
def ok2 (n : Nat) (b : BS) (p6 : Int32) : Prop := n < 20 ∧ ¬ gGone b p6
theorem g_tail {A : Prop} {px : String → Prop} {T : TS} {n P : Nat} {b : BS} {p0 p1 p2 p3 p4 p5 p6 : Int32} (hT : okT T n P) (ha : p6 = -1 ∨ vp_in p6 20) (h2 : ¬ ok1 p0 p1 p2 p3 p4 p5 → px "java/lang/IllegalArgumentException") (h3 : ok1 p0 p1 p2 p3 p4 p5 → ¬ ok2 n b p6 → px "java/lang/IllegalStateException") (hok : ok1 p0 p1 p2 p3 p4 p5 → ok2 n b p6 → A) :
    (p0 = p1 → px "java/lang/IllegalArgumentException") ∧ (¬ p0 = p1 → wpX2_requireWithin (wpX2_requireWithin (wpX2_requireWithin (wpX2_requireWithin ((T.2.2.2.2.2.2.2.2.2.2 < 20 → wpX0_isGone (fun r96 => (r96 = 0 → A) ∧ (¬ r96 = 0 → px "java/lang/IllegalStateException")) T b p6) ∧ (¬ T.2.2.2.2.2.2.2.2.2.2 < 20 → px "java/lang/IllegalStateException")) px p5 0 20) px p4 0 10) px p3 1 30) px p2 1 50) := by
  have h20 := hT.2.1
  rw [hT.1]
  have hc : nI n < 20 ↔ n < 20 := by rw [show (20 : Int32) = nI 20 from rfl, nI_ltI (by omega) (by decide)]
  refine ⟨fun c => h2 (fun z => z.1 c), fun c => d_within (fun a1 a2 => d_within (fun b1 b2 => d_within (fun c1 c2 => d_within (fun d1 d2 => ?_) (fun z => h2 (fun y => z y.2.2.2.2))) (fun z => h2 (fun y => z y.2.2.2.1))) (fun z => h2 (fun y => z y.2.2.1))) (fun z => h2 (fun y => z y.2.1))⟩
  have k1 : ok1 p0 p1 p2 p3 p4 p5 := ⟨c, ⟨a1, a2⟩, ⟨b1, b2⟩, ⟨c1, c2⟩, ⟨d1, d2⟩⟩
  exact ⟨fun y => g_isGone ha (fun g => b_1 (h3 k1 (fun z => z.2 g))) (fun g => b_0 (hok k1 ⟨hc.mp y, g⟩)), fun y => h3 k1 (fun z => y (hc.mpr z.1))⟩
theorem r_tail {post : Int32 → MS → Prop} {T : TS} {n P : Nat} {b : BS} {th t : Int32} {f k : Nat → Int32} {p0 p1 p2 p3 p4 p5 p6 : Int32} (hT : okT T n P) (hn : nb b t f) (hB : okB n b) (h6 : p6 = -1 ∨ ∃ u, u < n ∧ p6 = nI u) (h2 : ¬ ok1 p0 p1 p2 p3 p4 p5 → post 0 (mkM 2 P n T f k)) (h3 : ok1 p0 p1 p2 p3 p4 p5 → ¬ ok2 n b p6 → post 0 (mkM 3 P n T f k)) (hok : ok1 p0 p1 p2 p3 p4 p5 → ok2 n b p6 → wpX3_addDuty_b127 post p0 p1 p2 p3 p4 p5 p6 (mkM th P n T f k)) : wpX3_addDuty_b42 post p0 p1 p2 p3 p4 p5 p6 (mkM th P n T f k) := by
  have h20 := hT.2.1
  unfold wpX3_addDuty_b42
  refine ⟨fun c => h2 (fun z => z.1 c), fun c => r_isFrom (fun a1 a2 => b_1 (r_isFrom (fun b1 b2 => b_1 (r_isFrom (fun c1 c2 => b_1 (r_isFrom (fun d1 d2 => b_1 ?_) (fun z => b_0 (h2 (fun y => z y.2.2.2.2))))) (fun z => b_0 (h2 (fun y => z y.2.2.2.1))))) (fun z => b_0 (h2 (fun y => z y.2.2.1))))) (fun z => b_0 (h2 (fun y => z y.2.1)))⟩
  have k1 : ok1 p0 p1 p2 p3 p4 p5 := ⟨c, ⟨a1, a2⟩, ⟨b1, b2⟩, ⟨c1, c2⟩, ⟨d1, d2⟩⟩
  have hc : (mkM th P n T f k).2.2.1 = 20 ↔ n = 20 := nI_eq (a := n) (b := 20) (by omega) (by decide)
  refine ⟨fun y => h3 k1 (fun z => by have := hc.mp y; have := z.1; omega), fun y => ?_⟩
  have hn20 : n < 20 := by
    have : ¬ n = 20 := fun z => y (hc.mpr z)
    omega
  refine ⟨fun z => hok k1 ⟨hn20, fun g => g.1 z⟩, fun z => ?_⟩
  obtain ⟨u, u1, u2⟩ := h6.resolve_left z
  subst u2
  have hu : (nI u).toNatClampNeg = u := g_cl (by omega)
  refine r_state hn (by omega) ⟨fun q => hok k1 ⟨hn20, fun g => ?_⟩, fun q => h3 k1 (fun y2 => y2.2 ⟨z, ?_⟩)⟩
  · have g2 := g.2
    rw [hu] at g2
    rcases g2 with g2 | g2 <;> rw [g2] at q <;> exact absurd q (by decide)
  · rw [hu]
    rcases hB u u1 with g | g | g
    · rcases g.1 with g | g | g | g
      · rw [g] at q
        exact absurd (by decide) q
      · rw [g] at q
        exact absurd (by decide) q
      · exact Or.inl g
      · exact Or.inr g
    · rw [g.1] at q
      exact absurd (by decide) q
    · rw [g.1] at q
      exact absurd (by decide) q

/-! addDuty of the class: what it asks. -/
def okA (n P : Nat) (p0 p1 p6 : Int32) : Prop := (∃ q, q < P ∧ p0 = nI q) ∧ (∃ q, q < P ∧ p1 = nI q) ∧ (p6 = -1 ∨ ∃ u, u < n ∧ p6 = nI u)
theorem g_addDuty {post : Int32 → DS → Prop} {px : String → Prop} {T : TS} {n P : Nat} {b a : BS} {t : Int32} {p0 p1 p2 p3 p4 p5 p6 : Int32} (hT : okT T n P) (h1 : ¬ okA n P p0 p1 p6 → px "java/lang/IndexOutOfBoundsException") (h2 : okA n P p0 p1 p6 → ¬ ok1 p0 p1 p2 p3 p4 p5 → px "java/lang/IllegalArgumentException") (h3 : okA n P p0 p1 p6 → ok1 p0 p1 p2 p3 p4 p5 → ¬ ok2 n b p6 → px "java/lang/IllegalStateException")
    (hok : okA n P p0 p1 p6 → ok1 p0 p1 p2 p3 p4 p5 → ok2 n b p6 → wpX1_add (fun r127 T127 => wpX0_enter (fun b138 => post r127 (b138, a, T127, nI P, t)) T127 b r127) T p0 p1 p2 p3 p4 p5 p6) : wpX2_addDuty post px (b, a, T, nI P, t) p0 p1 p2 p3 p4 p5 p6 := by
  have h6 := hT.2.2.1
  have h20 := hT.2.1
  unfold wpX2_addDuty
  refine d_party (by omega) (fun q0 hq0 e0 => d_party (by omega) (fun q1 hq1 e1 => ⟨fun c6 => ?_, fun c6 => d_duty hT (fun u hu e6 => ?_) (fun c => h1 (fun z => c (z.2.2.resolve_left c6)))⟩) (fun c => h1 (fun z => c z.2.1))) (fun c => h1 (fun z => c z.1))
  · have A : okA n P p0 p1 p6 := ⟨⟨q0, hq0, e0⟩, ⟨q1, hq1, e1⟩, Or.inl c6⟩
    exact g_tail (px := px) hT (Or.inl c6) (h2 A) (h3 A) (hok A)
  · have A : okA n P p0 p1 p6 := ⟨⟨q0, hq0, e0⟩, ⟨q1, hq1, e1⟩, Or.inr ⟨u, hu, e6⟩⟩
    exact g_tail (px := px) hT (Or.inr (by rw [e6]; exact g_vi (by omega))) (h2 A) (h3 A) (hok A)
theorem r_addDuty {post : Int32 → MS → Prop} {T : TS} {n P : Nat} {b : BS} {th t : Int32} {f k : Nat → Int32} {p0 p1 p2 p3 p4 p5 p6 : Int32} (hT : okT T n P) (hn : nb b t f) (hB : okB n b) (h1 : ¬ okA n P p0 p1 p6 → post 0 (mkM 1 P n T f k)) (h2 : okA n P p0 p1 p6 → ¬ ok1 p0 p1 p2 p3 p4 p5 → post 0 (mkM 2 P n T f k)) (h3 : okA n P p0 p1 p6 → ok1 p0 p1 p2 p3 p4 p5 → ¬ ok2 n b p6 → post 0 (mkM 3 P n T f k))
    (hok : okA n P p0 p1 p6 → ok1 p0 p1 p2 p3 p4 p5 → ok2 n b p6 → wpX3_addDuty_b127 post p0 p1 p2 p3 p4 p5 p6 (mkM 0 P n T f k)) : wpX3_addDuty post (mkM th P n T f k) p0 p1 p2 p3 p4 p5 p6 := by
  have h6 := hT.2.2.1
  have h20 := hT.2.1
  unfold wpX3_addDuty
  refine r_isParty (th := 0) (P := P) (n := n) (T := T) (f := f) (k := k) (by omega) (fun q0 hq0 e0 => b_1 (r_isParty (th := 0) (P := P) (n := n) (T := T) (f := f) (k := k) (by omega) (fun q1 hq1 e1 => b_1 ⟨fun c6 => ?_, fun c6 => r_isDuty (th := 0) (P := P) (n := n) (T := T) (f := f) (k := k) (by omega) (fun u hu e6 => b_1 ?_) (fun c => b_0 (h1 (fun z => c (z.2.2.resolve_left c6))))⟩) (fun c => b_0 (h1 (fun z => c z.2.1))))) (fun c => b_0 (h1 (fun z => c z.1)))
  · have A : okA n P p0 p1 p6 := ⟨⟨q0, hq0, e0⟩, ⟨q1, hq1, e1⟩, Or.inl c6⟩
    exact r_tail (th := 0) hT hn hB A.2.2 (h2 A) (h3 A) (hok A)
  · have A : okA n P p0 p1 p6 := ⟨⟨q0, hq0, e0⟩, ⟨q1, hq1, e1⟩, Or.inr ⟨u, hu, e6⟩⟩
    exact r_tail (th := 0) hT hn hB A.2.2 (h2 A) (h3 A) (hok A)

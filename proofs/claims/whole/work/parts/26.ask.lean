/-! ASKING BOTH: the tests of arguments, the tail of a case, and the cases that ask for a number. -/
theorem i_idx {p : Int32} {n : Nat} (hn : n < 2 ^ 31) : (¬ p < 0 ∧ p < nI n) ↔ ∃ q, q < n ∧ p = nI q := by
  rw [Int32.lt_iff_toInt_lt, Int32.lt_iff_toInt_lt, Int32.toInt_zero, nI_toInt hn]
  constructor
  · rintro ⟨h1, h2⟩
    refine ⟨p.toInt.toNat, by omega, ?_⟩
    apply Int32.toInt_inj.mp
    rw [nI_toInt (by omega)]
    omega
  · rintro ⟨q, hq, rfl⟩
    rw [nI_toInt (by omega)]
    omega
theorem lg_self (x : Int64) : lg_cmp x x = 0 := by
  unfold lg_cmp
  rw [if_neg (fun h => Int64.lt_irrefl h), if_pos rfl]
section AK
variable {th t : Int32} {P n : Nat} {T : TS} {f k : Nat → Int32} {b a : BS} {d : Nat} {px : String → Prop}
theorem d_party {post : Prop} {p : Int32} (hP : P < 2 ^ 31) (h1 : ∀ q, q < P → p = nI q → post) (h0 : (¬ ∃ q, q < P ∧ p = nI q) → px "java/lang/IndexOutOfBoundsException") : wpX2_requireParty post px (b, a, T, nI P, t) p := by
  unfold wpX2_requireParty wpX2_requireParty_b12
  refine ⟨fun c => h0 (fun z => ((i_idx hP).mpr z).1 c), fun c => ⟨fun c2 => ?_, fun c2 => h0 (fun z => c2 ((i_idx hP).mpr z).2)⟩⟩
  obtain ⟨q, hq, e⟩ := (i_idx hP).mp ⟨c, c2⟩
  exact h1 q hq e
theorem d_duty {post : Prop} {p : Int32} {tt : Int32} {PP : Int32} (hT : okT T n P) (h1 : ∀ q, q < n → p = nI q → post) (h0 : (¬ ∃ q, q < n ∧ p = nI q) → px "java/lang/IndexOutOfBoundsException") : wpX2_requireDuty post px (b, a, T, PP, tt) p := by
  have h20 := hT.2.1
  have hn : n < 2 ^ 31 := by omega
  unfold wpX2_requireDuty wpX2_requireDuty_b15
  have e : ((b, a, T, PP, tt) : DS).2.2.1.2.2.2.2.2.2.2.2.2.2 = nI n := hT.1
  rw [e]
  refine ⟨fun c => h0 (fun z => ((i_idx hn).mpr z).1 c), fun c => ⟨fun c2 => ?_, fun c2 => h0 (fun z => c2 ((i_idx hn).mpr z).2)⟩⟩
  obtain ⟨q, hq, e⟩ := (i_idx hn).mp ⟨c, c2⟩
  exact h1 q hq e
theorem d_within {post : Prop} {p lo hi : Int32} (h1 : ¬ p < lo → p ≤ hi → post) (h0 : ¬ (¬ p < lo ∧ p ≤ hi) → px "java/lang/IllegalArgumentException") : wpX2_requireWithin post px p lo hi := by
  unfold wpX2_requireWithin wpX2_requireWithin_b10
  exact ⟨fun c => h0 (fun z => z.1 c), fun c => ⟨fun c2 => h1 c c2, fun c2 => h0 (fun z => c2 z.2)⟩⟩
theorem r_isFrom {post : Int32 → Prop} {p lo hi : Int32} (h1 : ¬ p < lo → p ≤ hi → post 1) (h0 : ¬ (¬ p < lo ∧ p ≤ hi) → post 0) : wpX3_isFrom post p lo hi := by
  unfold wpX3_isFrom
  exact ⟨fun c => h0 (fun z => z.1 c), fun c => ⟨fun c2 => h0 (fun z => absurd c2 (Int32.not_lt.mpr z.2)), fun c2 => h1 c (Int32.not_lt.mp c2)⟩⟩
theorem i_m1 {p : Int32} {n : Nat} (hn : n < 2 ^ 30) : p ≤ nI n - 1 ↔ p < nI n := by
  have e : (nI n - 1).toInt = (n : Int) - 1 := pk_sub_toInt (a := n) (b := 1) hn (by decide)
  rw [Int32.le_iff_toInt_le, Int32.lt_iff_toInt_lt, e, nI_toInt (by omega)]
  omega
theorem r_isParty {post : Int32 → Prop} {p : Int32} (hP : P < 2 ^ 30) (h1 : ∀ q, q < P → p = nI q → post 1) (h0 : (¬ ∃ q, q < P ∧ p = nI q) → post 0) : wpX3_isParty post (mkM th P n T f k) p := by
  unfold wpX3_isParty
  refine r_isFrom (fun c c2 => ⟨rfl, ?_⟩) (fun c => ⟨rfl, h0 (fun z => c ⟨((i_idx (show P < 2 ^ 31 by omega)).mpr z).1, (i_m1 hP).mpr ((i_idx (show P < 2 ^ 31 by omega)).mpr z).2⟩)⟩)
  obtain ⟨q, hq, e⟩ := (i_idx (show P < 2 ^ 31 by omega)).mp ⟨c, (i_m1 hP).mp c2⟩
  exact h1 q hq e
theorem r_isDuty {post : Int32 → Prop} {p : Int32} (hn : n < 2 ^ 30) (h1 : ∀ q, q < n → p = nI q → post 1) (h0 : (¬ ∃ q, q < n ∧ p = nI q) → post 0) : wpX3_isDuty post (mkM th P n T f k) p := by
  unfold wpX3_isDuty
  refine r_isFrom (fun c c2 => ⟨rfl, ?_⟩) (fun c => ⟨rfl, h0 (fun z => c ⟨((i_idx (show n < 2 ^ 31 by omega)).mpr z).1, (i_m1 hn).mpr ((i_idx (show n < 2 ^ 31 by omega)).mpr z).2⟩)⟩)
  obtain ⟨q, hq, e⟩ := (i_idx (show n < 2 ^ 31 by omega)).mp ⟨c, (i_m1 hn).mp c2⟩
  exact h1 q hq e
/-- a test that gives 0 or 1, and what hangs on it -/
theorem b_1 {A B : Prop} (h : B) : ((1 : Int32) = 0 → A) ∧ (¬ (1 : Int32) = 0 → B) := ⟨fun z => absurd z (by decide), fun _ => h⟩
theorem b_0 {A B : Prop} (h : A) : ((0 : Int32) = 0 → A) ∧ (¬ (0 : Int32) = 0 → B) := ⟨fun _ => h, fun z => absurd rfl z⟩
/-- the end of a case, where both returned -/
theorem t_ok {q : Int32} {mo : MS} {w : Nat → Int64} {Kp : Prop} (hz : mo.1 = 0) (hk : Kp) : wpX3_thrown (fun z => (z = 0 → (0 = (0 : Int32) → ((lg_cmp ((vp_updL w (0 : Int32).toNatClampNeg q.toInt64) (0 : Int32).toNatClampNeg) q.toInt64) = 0 → Kp) ∧ (¬ (lg_cmp ((vp_updL w (0 : Int32).toNatClampNeg q.toInt64) (0 : Int32).toNatClampNeg) q.toInt64) = 0 → False)) ∧ (¬ 0 = (0 : Int32) → Kp)) ∧ (¬ z = 0 → False)) mo := by
  unfold wpX3_thrown
  refine ⟨fun _ => ⟨fun _ => ⟨fun _ => hk, fun c => ?_⟩, fun c => absurd rfl c⟩, fun c => c hz⟩
  rw [pk_uLs, lg_self] at c
  exact c rfl
/-- .. and where both refused -/
theorem t_no {r q : Int32} {mo : MS} {w : Nat → Int64} {Kp : Prop} (hr : ¬ r = 0) (hz : mo.1 = r) (hk : Kp) : wpX3_thrown (fun z => (z = r → (r = 0 → ((lg_cmp (w (0 : Int32).toNatClampNeg) q.toInt64) = 0 → Kp) ∧ (¬ (lg_cmp (w (0 : Int32).toNatClampNeg) q.toInt64) = 0 → False)) ∧ (¬ r = 0 → Kp)) ∧ (¬ z = r → False)) mo := by
  unfold wpX3_thrown
  exact ⟨fun _ => ⟨fun c => absurd c hr, fun _ => hk⟩, fun c => c hz⟩
end AK
/-- the law's invariant; X: what the terms' depths and texts, and the reference's text, must be -/
def InvG (X : TS → Nat → SS → Prop) (d : DS) (mo : MS) (x : SS) : Prop := ∃ (P n : Nat) (T : TS) (b a : BS) (t : Int32) (f k : Nat → Int32) (th : Int32), d = (b, a, T, nI P, t) ∧ mo = mkM th P n T f k ∧ nb b t f ∧ okT T n P ∧ okB n b ∧ X T n x
section CS
variable {K : Int32 → DS → MS → SS → (Nat → Int64) → Prop} {X : TS → Nat → SS → Prop} {L : Nat} {xs : Nat → Int32} {i : Int32} {d : DS} {mo : MS} {x : SS} {w : Nat → Int64}
theorem case_day (hK : ∀ d mo x w, InvG X d mo x → K (i + 8) d mo x w) (hI : InvG X d mo x) : wpLc_664 K L xs i d mo x w := by
  obtain ⟨P, n, T, b, a, t, f, k, th, rfl, rfl, hn, hT, hB, hX⟩ := hI
  unfold wpLc_664 wpX2_day wpX3_day wpX3_ok
  refine ⟨v_68 (j := 0) (by decide), fun _ => hK _ _ _ _ ⟨P, n, T, b, a, t, f, k, 0, rfl, rfl, hn, hT, hB, hX⟩, fun c => c ?_⟩
  have c0 : ((0 : Int32).toNatClampNeg) = 0 := by decide
  rw [c0]
  exact hn.1.symm
theorem case_parties (hK : ∀ d mo x w, InvG X d mo x → K (i + 8) d mo x w) (hI : InvG X d mo x) : wpLc_677 K L xs i d mo x w := by
  obtain ⟨P, n, T, b, a, t, f, k, th, rfl, rfl, hn, hT, hB, hX⟩ := hI
  unfold wpLc_677 wpX2_parties wpX3_parties wpX3_ok
  exact ⟨fun _ => hK _ _ _ _ ⟨P, n, T, b, a, t, f, k, 0, rfl, rfl, hn, hT, hB, hX⟩, fun c => c rfl⟩
theorem case_duties (hK : ∀ d mo x w, InvG X d mo x → K (i + 8) d mo x w) (hI : InvG X d mo x) : wpLc_690 K L xs i d mo x w := by
  obtain ⟨P, n, T, b, a, t, f, k, th, rfl, rfl, hn, hT, hB, hX⟩ := hI
  unfold wpLc_690 wpX2_duties wpX3_duties wpX3_ok
  exact ⟨fun _ => hK _ _ _ _ ⟨P, n, T, b, a, t, f, k, 0, rfl, rfl, hn, hT, hB, hX⟩, fun c => c hT.1⟩
theorem case_penalties (hK : ∀ d mo x w, InvG X d mo x → K (i + 8) d mo x w) (hI : InvG X d mo x) : wpLc_815 K L xs i d mo x w := by
  obtain ⟨P, n, T, b, a, t, f, k, th, rfl, rfl, hn, hT, hB, hX⟩ := hI
  unfold wpLc_815 wpX2_penalties wpX3_penalties wpX3_ok
  refine ⟨v_68 (j := 1) (by decide), fun _ => hK _ _ _ _ ⟨P, n, T, b, a, t, f, k, 0, rfl, rfl, hn, hT, hB, hX⟩, fun c => c ?_⟩
  have c0 : ((1 : Int32).toNatClampNeg) = 1 := by decide
  rw [c0]
  exact hn.2.1.symm
end CS

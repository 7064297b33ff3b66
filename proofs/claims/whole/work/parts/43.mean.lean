/-! THE MEAN: a quotient of two whole numbers is no NaN; both divide the same. -/
/-- a datum that is written as a number, or as an infinity -/
def fpG (D : FP.Core.Datum) : Prop := (∃ s, D = .inf s) ∨ ∃ s c q, D = .fin s c q ∧ c < 9007199254740992 ∧ (c < 4503599627370496 ∨ q ≤ 971)
theorem fp_p : (2 : Nat) ^ FP.Core.b64.p = 9007199254740992 := by decide +kernel
theorem fp_t : FP.Core.b64.tails = 4503599627370496 := by decide +kernel
theorem fp_e : FP.Core.b64.exps = 2048 := by decide +kernel
theorem fp_q : FP.Core.b64.qmin = -1074 := by decide +kernel
theorem fp_x : FP.Core.b64.qmax = 971 := by decide +kernel
theorem fp_bound (s : Bool) (c : Nat) (q : Int) (hc : c < 9007199254740992) : fpG (FP.Core.bound FP.Core.b64 s c q) := by
  unfold FP.Core.bound
  rw [fp_x]
  by_cases h : q ≤ 971
  · rw [if_pos h]
    exact Or.inr ⟨s, c, q, rfl, hc, Or.inr h⟩
  · rw [if_neg h]
    exact Or.inl ⟨s, rfl⟩
theorem fp_settle (s : Bool) (c : Nat) (q : Int) : fpG (FP.Core.settle FP.Core.b64 s c q) := by
  unfold FP.Core.settle
  rw [fp_p, fp_t]
  by_cases h : c < 9007199254740992
  · rw [if_pos h]
    exact fp_bound s c q h
  · rw [if_neg h]
    exact fp_bound s _ _ (by decide)
theorem fp_ratio (s : Bool) (c d : Nat) (q : Int) : fpG (FP.Core.roundRatio FP.Core.b64 s c d q) := by
  unfold FP.Core.roundRatio
  by_cases h : c = 0
  · rw [if_pos h]
    exact Or.inr ⟨s, 0, _, rfl, by decide, Or.inl (by decide)⟩
  · rw [if_neg h]
    exact fp_settle _ _ _
theorem fp_enc {D : FP.Core.Datum} (h : fpG D) : FP.Core.encode FP.Core.b64 D < 18446744073709551616 ∧ FP.Core.encode FP.Core.b64 D % 9223372036854775808 ≤ 9218868437227405312 := by
  rcases h with ⟨s, rfl⟩ | ⟨s, c, q, rfl, hc, hq⟩
  · cases s
    · exact ⟨by decide +kernel, by decide +kernel⟩
    · exact ⟨by decide +kernel, by decide +kernel⟩
  · have hs : s.toNat = 0 ∨ s.toNat = 1 := by
      cases s
      · exact Or.inl rfl
      · exact Or.inr rfl
    have k0 : FP.Core.encode FP.Core.b64 (.fin s c q) = (if c < FP.Core.b64.tails then (s.toNat * FP.Core.b64.exps + 0) * FP.Core.b64.tails + c else (s.toNat * FP.Core.b64.exps + ((q - FP.Core.b64.qmin).toNat + 1)) * FP.Core.b64.tails + (c - FP.Core.b64.tails)) := rfl
    rw [fp_t, fp_e, fp_q] at k0
    rw [k0]
    by_cases h : c < 4503599627370496
    · rw [if_pos h]
      omega
    · rw [if_neg h]
      omega
theorem fp_n64 {n : Nat} (h : n < 18446744073709551616 ∧ n % 9223372036854775808 ≤ 9218868437227405312) : vf_n64 (UInt64.ofNat n) := by
  unfold vf_n64
  have e1 : (UInt64.ofNat n).toNat = n := UInt64.toNat_ofNat_of_lt' h.1
  have e2 : (0x7fffffffffffffff : UInt64).toNat = 2 ^ 63 - 1 := by decide +kernel
  have e3 : (0x7ff0000000000000 : UInt64).toNat = 9218868437227405312 := by decide +kernel
  rw [UInt64.le_iff_toNat_le, UInt64.toNat_and, e1, e2, e3, Nat.and_two_pow_sub_one_eq_mod]
  exact h.2
theorem fp_dec {n : Nat} (h : n % 9223372036854775808 ≤ 9218868437227405312) : FP.Core.decode FP.Core.b64 n ≠ .nan := by
  unfold FP.Core.decode FP.Core.fieldE FP.Core.fieldT
  rw [fp_t, fp_e]
  by_cases c : n / 4503599627370496 % 2048 = 2048 - 1
  · rw [if_pos c, if_pos (by omega)]
    exact fun z => by cases z
  · rw [if_neg c]
    by_cases c2 : n / 4503599627370496 % 2048 = 0
    · rw [if_pos c2]
      exact fun z => by cases z
    · rw [if_neg c2]
      exact fun z => by cases z
theorem fp_i2d (v : Int32) : FP.Core.decode FP.Core.b64 (FP.i2d v).toNat ≠ .nan := by
  have h := fp_enc (fp_ratio (decide (v.toInt < 0)) v.toInt.natAbs 1 0)
  have e : (FP.i2d v).toNat = FP.Core.encode FP.Core.b64 (FP.Core.roundRatio FP.Core.b64 (decide (v.toInt < 0)) v.toInt.natAbs 1 0) := UInt64.toNat_ofNat_of_lt' h.1
  rw [e]
  exact fp_dec h.2
theorem fp_iP {P : Nat} (h0 : ¬ P = 0) (h6 : P ≤ 6) : ∃ c q, FP.Core.decode FP.Core.b64 (FP.i2d (nI P)).toNat = .fin false c q ∧ ¬ c = 0 := by
  rcases (show P = 1 ∨ P = 2 ∨ P = 3 ∨ P = 4 ∨ P = 5 ∨ P = 6 by omega) with rfl | rfl | rfl | rfl | rfl | rfl
  · exact ⟨4503599627370496, -52, by decide +kernel, by decide⟩
  · exact ⟨4503599627370496, -51, by decide +kernel, by decide⟩
  · exact ⟨6755399441055744, -51, by decide +kernel, by decide⟩
  · exact ⟨4503599627370496, -50, by decide +kernel, by decide⟩
  · exact ⟨5629499534213120, -50, by decide +kernel, by decide⟩
  · exact ⟨6755399441055744, -50, by decide +kernel, by decide⟩
theorem fp_quot {D : FP.Core.Datum} {c : Nat} {q : Int} (h : D ≠ .nan) (hc : ¬ c = 0) : fpG (FP.Core.quotient FP.Core.b64 D (.fin false c q)) := by
  cases D with
  | nan => exact absurd rfl h
  | inf s => exact Or.inl ⟨_, rfl⟩
  | fin s c1 q1 =>
    have e : FP.Core.quotient FP.Core.b64 (.fin s c1 q1) (.fin false c q) = (if c = 0 then (if c1 = 0 then .nan else .inf (s != false)) else FP.Core.roundRatio FP.Core.b64 (s != false) c1 c (q1 - q)) := rfl
    rw [e, if_neg hc]
    exact fp_ratio _ _ _ _
theorem fp_div (v : Int32) {P : Nat} (h0 : ¬ P = 0) (h6 : P ≤ 6) : vf_n64 (FP.ddiv (FP.i2d v) (FP.i2d (nI P))) := by
  obtain ⟨c, q, e, hc⟩ := fp_iP h0 h6
  have g := fp_n64 (fp_enc (fp_quot (q := q) (fp_i2d v) hc))
  rw [← e] at g
  exact g
/-- the coins of the first j parties -/
def gSum (b : BS) : Nat → Int32
  | 0 => 0
  | j + 1 => gSum b j + b.1 j
def gMean (b : BS) (P : Nat) : UInt64 := if P = 0 then 0 else FP.ddiv (FP.i2d (gSum b P)) (FP.i2d (nI P))
section MN
variable {T : TS} {n P : Nat} {b a : BS} {th t : Int32} {f k : Nat → Int32}
theorem g_meanL {post : UInt64 → Prop} (h6 : P ≤ 6) (h0 : ¬ P = 0) (h : post (gMean b P)) : ∀ (fu j : Nat), j + fu = P → wpX2_meanPurse_b13 post (b, a, T, nI P, t) (fu + 1) (gSum b j) (nI j) := by
  rw [gMean, if_neg h0] at h
  intro fu
  induction fu with
  | zero =>
    intro j hj
    have e : j = P := by omega
    subst e
    rw [wpX2_meanPurse_b13]
    exact br_t ((nI_leI (by omega) (by omega)).mpr (Nat.le_refl _)) ⟨fp_div _ h0 h6, h⟩
  | succ fu ih =>
    intro j hj
    rw [wpX2_meanPurse_b13]
    refine br_f (fun z => by have := (nI_leI (by omega) (by omega)).mp (show nI P ≤ nI j from z); omega) ⟨vp_in_nI (by omega) (by decide), ?_⟩
    have r := ih (j + 1) (by omega)
    rw [nI_1, r_cl (by omega)]
    exact r
theorem g_mean {post : UInt64 → Prop} (h6 : P ≤ 6) (h : post (gMean b P)) : wpX2_meanPurse post (b, a, T, nI P, t) := by
  unfold wpX2_meanPurse
  refine ⟨fun c => ?_, fun c => ⟨P + 1, ?_⟩⟩
  · have e : P = 0 := (nI_z (by omega)).mp c
    rw [gMean, if_pos e] at h
    exact h
  · have e : ¬ P = 0 := fun z => c ((nI_z (by omega)).mpr z)
    have r := g_meanL (T := T) (a := a) (t := t) h6 e h P 0 (Nat.zero_add P)
    rw [nI_0] at r
    exact r
theorem r_meanL {post : UInt64 → MS → Prop} (hn : nb b t f) (h6 : P ≤ 6) (h : post (gMean b P) (mkM th P n T f k)) : ∀ (fu j : Nat), j + fu = P → wpX3_meanPurse_b9 post (fu + 1) (gSum b j) (nI j) (mkM th P n T f k) := by
  intro fu
  induction fu with
  | zero =>
    intro j hj
    have e : j = P := by omega
    subst e
    rw [wpX3_meanPurse_b9]
    refine br_t ((nI_leI (by omega) (by omega)).mpr (Nat.le_refl _)) ⟨fun c => ?_, fun c => ?_⟩
    · have e : j = 0 := (nI_z (by omega)).mp c
      rw [gMean, if_pos e] at h
      exact h
    · have e : ¬ j = 0 := fun z => c ((nI_z (by omega)).mpr z)
      rw [gMean, if_neg e] at h
      exact ⟨fp_div _ e h6, h⟩
  | succ fu ih =>
    intro j hj
    rw [wpX3_meanPurse_b9]
    refine br_f (fun z => by have := (nI_leI (by omega) (by omega)).mp (show nI P ≤ nI j from z); omega) ?_
    have r := ih (j + 1) (by omega)
    rw [nI_1, e_2, c_68 (j := 2 + j) (by omega)]
    have ef : (mkM th P n T f k).2.2.2.2.2.2.2.2.2.2.1 (2 + j) = b.1 j := hn.2.2.1 j (by omega)
    rw [ef]
    exact ⟨v_68 (by omega), r⟩
theorem r_mean {post : UInt64 → MS → Prop} (hn : nb b t f) (h6 : P ≤ 6) (h : post (gMean b P) (mkM 0 P n T f k)) : wpX3_meanPurse post (mkM th P n T f k) := by
  refine ⟨P + 1, ?_⟩
  have r := r_meanL hn h6 h P 0 (Nat.zero_add P)
  rw [nI_0] at r
  exact r
end MN
theorem case_meanPurse {K : Int32 → DS → MS → SS → (Nat → Int64) → Prop} {X : TS → Nat → SS → Prop} {L : Nat} {xs : Nat → Int32} {i : Int32} {d : DS} {mo : MS} {x : SS} {w : Nat → Int64} (hK : ∀ d mo x w, InvG X d mo x → K (i + 8) d mo x w) (hI : InvG X d mo x) : wpLc_1593 K L xs i d mo x w := by
  obtain ⟨P, n, T, b, a, t, f, k, th, rfl, rfl, hn, hT, hB, hX⟩ := hI
  have h6 := hT.2.2.1
  unfold wpLc_1593
  have go : K (i + 8) (b, a, T, nI P, t) (mkM 0 P n T f k) x w := hK _ _ _ _ ⟨P, n, T, b, a, t, f, k, 0, rfl, rfl, hn, hT, hB, hX⟩
  exact g_mean h6 (r_mean hn h6 ⟨fun _ => go, fun c => ⟨fun z => c z, fun _ => ⟨fun z => c z, fun _ => go⟩⟩⟩)

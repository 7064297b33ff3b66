/-! CASES OF THE LAW: what asks, and what moves, without the texts. -/
theorem t_ok2 {v q : Int32} {mo : MS} {w : Nat → Int64} {Kp : Prop} (hz : mo.1 = 0) (hq : q = v) (hk : Kp) : wpX3_thrown (fun z => (z = 0 → (0 = (0 : Int32) → ((lg_cmp ((vp_updL w (0 : Int32).toNatClampNeg v.toInt64) (0 : Int32).toNatClampNeg) q.toInt64) = 0 → Kp) ∧ (¬ (lg_cmp ((vp_updL w (0 : Int32).toNatClampNeg v.toInt64) (0 : Int32).toNatClampNeg) q.toInt64) = 0 → False)) ∧ (¬ 0 = (0 : Int32) → Kp)) ∧ (¬ z = 0 → False)) mo := by
  subst hq
  exact t_ok hz hk
section CT
variable {K : Int32 → DS → MS → SS → (Nat → Int64) → Prop} {X : TS → Nat → SS → Prop} {L : Nat} {xs : Nat → Int32} {i : Int32} {d : DS} {mo : MS} {x : SS} {w : Nat → Int64}
theorem case_stateOf (hv : ∀ c : Nat, c < 8 → vp_in (i + nI c) L) (hK : ∀ d mo x w, InvG X d mo x → K (i + 8) d mo x w) (hI : InvG X d mo x) : wpLc_828 K L xs i d mo x w := by
  obtain ⟨P, n, T, b, a, t, f, k, th, rfl, rfl, hn, hT, hB, hX⟩ := hI
  have h20 := hT.2.1
  have h6 := hT.2.2.1
  have v1 : vp_in (i + 1) L := hv 1 (by decide)
  unfold wpLc_828 wpL_stateOf wpX2_stateOf wpX3_stateOf wpX3_ofDuty
  generalize xs (i + 1).toNatClampNeg = p
  refine ⟨v1, d_duty hT (fun q hq e => ?_) (fun c => ⟨rfl, v1, ?_⟩)⟩
  · subst e
    have hq20 : q < 20 := by omega
    rw [g_cl hq20, e_8, c_68 (j := 8 + q) (by omega)]
    exact ⟨g_vi hq20, v1, r_isDuty (th := 0) (P := P) (n := n) (T := T) (f := f) (k := k) (by omega) (fun _ _ _ => b_1 ⟨v_68 (by omega), t_ok2 rfl (hn.2.2.2 q hq20).1 (hK _ _ _ _ ⟨P, n, T, b, a, t, f, k, 0, rfl, rfl, hn, hT, hB, hX⟩)⟩) (fun c => absurd ⟨q, hq, rfl⟩ c)⟩
  · exact r_isDuty (th := 0) (P := P) (n := n) (T := T) (f := f) (k := k) (by omega) (fun q h1 h2 => absurd ⟨q, h1, h2⟩ c) (fun _ => b_0 (t_no (by decide) rfl (hK _ _ _ _ ⟨P, n, T, b, a, t, f, k, 1, rfl, rfl, hn, hT, hB, hX⟩)))
theorem case_daysLeft (hv : ∀ c : Nat, c < 8 → vp_in (i + nI c) L) (hK : ∀ d mo x w, InvG X d mo x → K (i + 8) d mo x w) (hI : InvG X d mo x) : wpLc_884 K L xs i d mo x w := by
  obtain ⟨P, n, T, b, a, t, f, k, th, rfl, rfl, hn, hT, hB, hX⟩ := hI
  have h20 := hT.2.1
  have h6 := hT.2.2.1
  have v1 : vp_in (i + 1) L := hv 1 (by decide)
  unfold wpLc_884 wpL_daysLeft wpX2_daysLeft wpX3_daysLeft wpX3_ofDuty
  generalize xs (i + 1).toNatClampNeg = p
  refine ⟨v1, d_duty hT (fun q hq e => ?_) (fun c => ⟨rfl, v1, ?_⟩)⟩
  · subst e
    have hq20 : q < 20 := by omega
    rw [g_cl hq20, e_28, c_68 (j := 28 + q) (by omega)]
    exact ⟨g_vi hq20, v1, r_isDuty (th := 0) (P := P) (n := n) (T := T) (f := f) (k := k) (by omega) (fun _ _ _ => b_1 ⟨v_68 (by omega), t_ok2 rfl (hn.2.2.2 q hq20).2.1 (hK _ _ _ _ ⟨P, n, T, b, a, t, f, k, 0, rfl, rfl, hn, hT, hB, hX⟩)⟩) (fun c => absurd ⟨q, hq, rfl⟩ c)⟩
  · exact r_isDuty (th := 0) (P := P) (n := n) (T := T) (f := f) (k := k) (by omega) (fun q h1 h2 => absurd ⟨q, h1, h2⟩ c) (fun _ => b_0 (t_no (by decide) rfl (hK _ _ _ _ ⟨P, n, T, b, a, t, f, k, 1, rfl, rfl, hn, hT, hB, hX⟩)))
theorem case_stoppedFor (hv : ∀ c : Nat, c < 8 → vp_in (i + nI c) L) (hK : ∀ d mo x w, InvG X d mo x → K (i + 8) d mo x w) (hI : InvG X d mo x) : wpLc_940 K L xs i d mo x w := by
  obtain ⟨P, n, T, b, a, t, f, k, th, rfl, rfl, hn, hT, hB, hX⟩ := hI
  have h20 := hT.2.1
  have h6 := hT.2.2.1
  have v1 : vp_in (i + 1) L := hv 1 (by decide)
  unfold wpLc_940 wpL_stoppedFor wpX2_stoppedFor wpX3_stoppedFor wpX3_ofDuty
  generalize xs (i + 1).toNatClampNeg = p
  refine ⟨v1, d_duty hT (fun q hq e => ?_) (fun c => ⟨rfl, v1, ?_⟩)⟩
  · subst e
    have hq20 : q < 20 := by omega
    rw [g_cl hq20, e_48, c_68 (j := 48 + q) (by omega)]
    exact ⟨g_vi hq20, v1, r_isDuty (th := 0) (P := P) (n := n) (T := T) (f := f) (k := k) (by omega) (fun _ _ _ => b_1 ⟨v_68 (by omega), t_ok2 rfl (hn.2.2.2 q hq20).2.2 (hK _ _ _ _ ⟨P, n, T, b, a, t, f, k, 0, rfl, rfl, hn, hT, hB, hX⟩)⟩) (fun c => absurd ⟨q, hq, rfl⟩ c)⟩
  · exact r_isDuty (th := 0) (P := P) (n := n) (T := T) (f := f) (k := k) (by omega) (fun q h1 h2 => absurd ⟨q, h1, h2⟩ c) (fun _ => b_0 (t_no (by decide) rfl (hK _ _ _ _ ⟨P, n, T, b, a, t, f, k, 1, rfl, rfl, hn, hT, hB, hX⟩)))
theorem case_purseOf (hv : ∀ c : Nat, c < 8 → vp_in (i + nI c) L) (hK : ∀ d mo x w, InvG X d mo x → K (i + 8) d mo x w) (hI : InvG X d mo x) : wpLc_759 K L xs i d mo x w := by
  obtain ⟨P, n, T, b, a, t, f, k, th, rfl, rfl, hn, hT, hB, hX⟩ := hI
  have h20 := hT.2.1
  have h6 := hT.2.2.1
  have v1 : vp_in (i + 1) L := hv 1 (by decide)
  unfold wpLc_759 wpL_purseOf wpX2_purseOf wpX3_purseOf
  generalize xs (i + 1).toNatClampNeg = p
  refine ⟨v1, d_party (by omega) (fun q hq e => ?_) (fun c => ⟨rfl, v1, ?_⟩)⟩
  · subst e
    have hq6 : q < 6 := by omega
    rw [r_cl hq6, e_2, c_68 (j := 2 + q) (by omega)]
    exact ⟨vp_in_nI hq6 (by decide), v1, r_isParty (th := 0) (P := P) (n := n) (T := T) (f := f) (k := k) (by omega) (fun _ _ _ => b_1 ⟨v_68 (by omega), t_ok2 rfl (hn.2.2.1 q hq6) (hK _ _ _ _ ⟨P, n, T, b, a, t, f, k, 0, rfl, rfl, hn, hT, hB, hX⟩)⟩) (fun c => absurd ⟨q, hq, rfl⟩ c)⟩
  · exact r_isParty (th := 0) (P := P) (n := n) (T := T) (f := f) (k := k) (by omega) (fun q h1 h2 => absurd ⟨q, h1, h2⟩ c) (fun _ => b_0 (t_no (by decide) rfl (hK _ _ _ _ ⟨P, n, T, b, a, t, f, k, 1, rfl, rfl, hn, hT, hB, hX⟩)))
theorem case_priceOf (hv : ∀ c : Nat, c < 8 → vp_in (i + nI c) L) (hK : ∀ d mo x w, InvG X d mo x → K (i + 8) d mo x w) (hI : InvG X d mo x) : wpLc_996 K L xs i d mo x w := by
  obtain ⟨P, n, T, b, a, t, f, k, th, rfl, rfl, hn, hT, hB, hX⟩ := hI
  have h20 := hT.2.1
  have h6 := hT.2.2.1
  have v1 : vp_in (i + 1) L := hv 1 (by decide)
  unfold wpLc_996 wpL_priceOf wpX2_priceOf wpX3_priceOf
  generalize xs (i + 1).toNatClampNeg = p
  refine ⟨v1, d_duty hT (fun q hq e => ?_) (fun c => ⟨rfl, v1, ?_⟩)⟩
  · subst e
    have hq20 : q < 20 := by omega
    exact g_price hq20 ⟨v1, r_isDuty (th := 0) (P := P) (n := n) (T := T) (f := f) (k := k) (by omega) (fun _ _ _ => b_1 (r_price (th := 0) (P := P) (n := n) (T := T) (f := f) (k := k) hn hq20 (t_ok2 rfl rfl (hK _ _ _ _ ⟨P, n, T, b, a, t, f, k, 0, rfl, rfl, hn, hT, hB, hX⟩)))) (fun c => absurd ⟨q, hq, rfl⟩ c)⟩
  · exact r_isDuty (th := 0) (P := P) (n := n) (T := T) (f := f) (k := k) (by omega) (fun q h1 h2 => absurd ⟨q, h1, h2⟩ c) (fun _ => b_0 (t_no (by decide) rfl (hK _ _ _ _ ⟨P, n, T, b, a, t, f, k, 1, rfl, rfl, hn, hT, hB, hX⟩)))
theorem case_pay (hv : ∀ c : Nat, c < 8 → vp_in (i + nI c) L) (hK : ∀ d mo x w, InvG X d mo x → K (i + 8) d mo x w) (hI : InvG X d mo x) : wpLc_360 K L xs i d mo x w := by
  obtain ⟨P, n, T, b, a, t, f, k, th, rfl, rfl, hn, hT, hB, hX⟩ := hI
  have h20 := hT.2.1
  have h6 := hT.2.2.1
  have v1 : vp_in (i + 1) L := hv 1 (by decide)
  unfold wpLc_360 wpL_pay wpX2_pay wpX3_pay
  generalize xs (i + 1).toNatClampNeg = p
  refine ⟨v1, d_duty hT (fun q hq e => ?_) (fun c => Or.inl ⟨rfl, v1, ?_⟩)⟩
  · subst e
    have hq20 : q < 20 := by omega
    refine g_canBePaid hT hq (fun c => b_1 (g_price hq20 (g_settle hT hq ⟨v1, ?_⟩))) (fun c => b_0 (Or.inr ⟨rfl, v1, ?_⟩))
    · refine r_isDuty (th := 0) (P := P) (n := n) (T := T) (f := f) (k := k) (by omega) (fun _ _ _ => b_1 (r_canPay (th := 0) (P := P) (n := n) (T := T) (f := f) (k := k) hT hn hq (fun _ => b_1 (r_price (th := 0) (P := P) (n := n) (T := T) (f := f) (k := k) hn hq20 (r_paid (th := 0) (P := P) (n := n) (T := T) (f := f) (k := k) hT hn hq (fun f' hn' => ?_)))) (fun c2 => absurd c c2))) (fun c => absurd ⟨q, hq, rfl⟩ c)
      exact t_ok2 rfl rfl (hK _ _ _ _ ⟨P, n, T, gSettle T n b q, a, t, f', k, 0, rfl, rfl, hn', hT, gSettle_ok hT hq hB, hX⟩)
    · exact r_isDuty (th := 0) (P := P) (n := n) (T := T) (f := f) (k := k) (by omega) (fun _ _ _ => b_1 (r_canPay (th := 0) (P := P) (n := n) (T := T) (f := f) (k := k) hT hn hq (fun c2 => absurd c2 c) (fun _ => b_0 (t_no (by decide) rfl (hK _ _ _ _ ⟨P, n, T, b, a, t, f, k, 2, rfl, rfl, hn, hT, hB, hX⟩))))) (fun c => absurd ⟨q, hq, rfl⟩ c)
  · exact r_isDuty (th := 0) (P := P) (n := n) (T := T) (f := f) (k := k) (by omega) (fun q h1 h2 => absurd ⟨q, h1, h2⟩ c) (fun _ => b_0 (t_no (by decide) rfl (hK _ _ _ _ ⟨P, n, T, b, a, t, f, k, 1, rfl, rfl, hn, hT, hB, hX⟩)))
theorem case_give (hv : ∀ c : Nat, c < 8 → vp_in (i + nI c) L) (hK : ∀ d mo x w, InvG X d mo x → K (i + 8) d mo x w) (hI : InvG X d mo x) : wpLc_540 K L xs i d mo x w := by
  obtain ⟨P, n, T, b, a, t, f, k, th, rfl, rfl, hn, hT, hB, hX⟩ := hI
  have h20 := hT.2.1
  have h6 := hT.2.2.1
  have v1 : vp_in (i + 1) L := hv 1 (by decide)
  have v2 : vp_in (i + 2) L := hv 2 (by decide)
  unfold wpLc_540 wpL_give wpX2_give wpX3_give
  generalize xs (i + 1).toNatClampNeg = p
  generalize xs (i + 2).toNatClampNeg = c9
  refine ⟨v1, v2, d_party (by omega) (fun q hq e => ?_) (fun c => Or.inl ⟨rfl, v1, v2, ?_⟩)⟩
  · subst e
    have hq6 : q < 6 := by omega
    have vq := vp_in_nI (N := 6) hq6 (by decide)
    rw [r_cl hq6, e_2, c_68 (j := 2 + q) (by omega)]
    refine d_within (fun c1 c2 => ⟨vq, vq, vq, v1, v2, ?_⟩) (fun c => Or.inr ⟨rfl, v1, v2, ?_⟩)
    · have ef : f (2 + q) = b.1 q := hn.2.2.1 q hq6
      refine r_isParty (th := 0) (P := P) (n := n) (T := T) (f := f) (k := k) (by omega) (fun _ _ _ => b_1 (r_isFrom (fun _ _ => b_1 ⟨v_68 (by omega), v_68 (by omega), v_68 (by omega), ?_⟩) (fun z => absurd ⟨c1, c2⟩ z))) (fun c => absurd ⟨q, hq, rfl⟩ c)
      refine t_ok2 rfl ?_ (hK _ _ _ _ ⟨P, n, T, (upd b.1 q (b.1 q + c9), b.2.1, b.2.2.1, b.2.2.2.1, b.2.2.2.2), a, t, upd f (2 + q) (f (2 + q) + c9), k, 0, rfl, rfl, ?_, hT, fun j hj => okD_eq (hB j hj) rfl rfl rfl, hX⟩)
      · show upd f (2 + q) (f (2 + q) + c9) (2 + q) = upd b.1 q (b.1 q + c9) q
        rw [pk_us, pk_us, ef]
      · rw [ef]
        exact nb_pu hn hq6
    · exact r_isParty (th := 0) (P := P) (n := n) (T := T) (f := f) (k := k) (by omega) (fun _ _ _ => b_1 (r_isFrom (fun c1 c2 => absurd ⟨c1, c2⟩ c) (fun _ => b_0 (t_no (by decide) rfl (hK _ _ _ _ ⟨P, n, T, b, a, t, f, k, 2, rfl, rfl, hn, hT, hB, hX⟩))))) (fun c => absurd ⟨q, hq, rfl⟩ c)
  · exact r_isParty (th := 0) (P := P) (n := n) (T := T) (f := f) (k := k) (by omega) (fun q h1 h2 => absurd ⟨q, h1, h2⟩ c) (fun _ => b_0 (t_no (by decide) rfl (hK _ _ _ _ ⟨P, n, T, b, a, t, f, k, 1, rfl, rfl, hn, hT, hB, hX⟩)))
theorem case_pass (hv : ∀ c : Nat, c < 8 → vp_in (i + nI c) L) (hK : ∀ d mo x w, InvG X d mo x → K (i + 8) d mo x w) (hI : InvG X d mo x) : wpLc_608 K L xs i d mo x w := by
  obtain ⟨P, n, T, b, a, t, f, k, th, rfl, rfl, hn, hT, hB, hX⟩ := hI
  have h20 := hT.2.1
  have h6 := hT.2.2.1
  have v1 : vp_in (i + 1) L := hv 1 (by decide)
  unfold wpLc_608 wpL_pass wpX2_pass wpX3_pass
  generalize xs (i + 1).toNatClampNeg = p
  refine ⟨v1, d_within (fun c1 c2 => ?_) (fun c => ⟨rfl, v1, ?_⟩)⟩
  · obtain ⟨m, hm, rfl⟩ : ∃ m, m < 61 ∧ p = nI m := by
      refine (i_idx (by decide)).mp ⟨fun z => c1 ?_, ?_⟩
      · rw [Int32.lt_iff_toInt_lt] at z ⊢
        rw [Int32.toInt_zero] at z
        exact Int.lt_trans z (by decide)
      · rw [Int32.le_iff_toInt_le] at c2
        rw [Int32.lt_iff_toInt_lt]
        exact Int.lt_of_le_of_lt c2 (by decide)
    refine g_live (by omega) hT ⟨v1, r_isFrom (fun _ _ => b_1 (r_count (th := 0) (P := P) (n := n) (T := T) (f := f) (k := k) hT hn (r_daysOn (th := 0) (P := P) (n := n) (T := T) (f := f) (k := k) (by omega) hT hn hB (fun f' hn' => r_count (th := 0) (P := P) (n := n) (T := T) (f := f') (k := k) hT hn' ?_)))) (fun z => absurd ⟨c1, c2⟩ z)⟩
    exact t_ok2 rfl gLive_cnt.symm (hK _ _ _ _ ⟨P, n, T, (gLive T n m b).2, a, t + nI m, f', k, 0, rfl, rfl, hn', hT, gLive_ok hT hB, hX⟩)
  · exact r_isFrom (fun c1 c2 => absurd ⟨c1, c2⟩ c) (fun _ => b_0 (t_no (by decide) rfl (hK _ _ _ _ ⟨P, n, T, b, a, t, f, k, 1, rfl, rfl, hn, hT, hB, hX⟩)))
end CT

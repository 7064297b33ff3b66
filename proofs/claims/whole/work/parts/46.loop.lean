/-! THE LAW: every case keeps the invariant, and so does the loop. -/
theorem op_ok {K : Int32 → DS → MS → SS → (Nat → Int64) → Prop} {L : Nat} {xs : Nat → Int32} {i : Int32} {d : DS} {mo : MS} {x : SS} {w : Nat → Int64} (hv : ∀ c : Nat, c < 8 → vp_in (i + nI c) L) (hK : ∀ d mo x w, InvG okX d mo x → K (i + 8) d mo x w) (hI : InvG okX d mo x) : ∀ j : Nat, j < 32 → wpL_op K L xs j i d mo x w := by
  intro j hj
  match j, hj with
  | 0, _ =>
    show wpLc_172 K L xs i d mo x w
    exact case_addParty hv hK hI
  | 1, _ =>
    show wpLc_228 K L xs i d mo x w
    exact case_addDuty hv hK hI
  | 2, _ =>
    show wpLc_360 K L xs i d mo x w
    exact case_pay hv hK hI
  | 3, _ =>
    show wpLc_416 K L xs i d mo x w
    exact case_release hv hK hI
  | 4, _ =>
    show wpLc_472 K L xs i d mo x w
    exact case_stop hv hK hI
  | 5, _ =>
    show wpLc_540 K L xs i d mo x w
    exact case_give hv hK hI
  | 6, _ =>
    show wpLc_608 K L xs i d mo x w
    exact case_pass hv hK hI
  | 7, _ =>
    show wpLc_664 K L xs i d mo x w
    exact case_day hK hI
  | 8, _ =>
    show wpLc_677 K L xs i d mo x w
    exact case_parties hK hI
  | 9, _ =>
    show wpLc_690 K L xs i d mo x w
    exact case_duties hK hI
  | 10, _ =>
    show wpLc_703 K L xs i d mo x w
    exact case_inState hv hK hI
  | 11, _ =>
    show wpLc_759 K L xs i d mo x w
    exact case_purseOf hv hK hI
  | 12, _ =>
    show wpLc_815 K L xs i d mo x w
    exact case_penalties hK hI
  | 13, _ =>
    show wpLc_828 K L xs i d mo x w
    exact case_stateOf hv hK hI
  | 14, _ =>
    show wpLc_884 K L xs i d mo x w
    exact case_daysLeft hv hK hI
  | 15, _ =>
    show wpLc_940 K L xs i d mo x w
    exact case_stoppedFor hv hK hI
  | 16, _ =>
    show wpLc_996 K L xs i d mo x w
    exact case_priceOf hv hK hI
  | 17, _ =>
    show wpLc_1052 K L xs i d mo x w
    exact case_hanging (fun _ _ _ h => h.1) hv hK hI
  | 18, _ =>
    show wpLc_1108 K L xs i d mo x w
    exact case_depthOf (fun _ _ _ h => h.1) hv hK hI
  | 19, _ =>
    show wpLc_1164 K L xs i d mo x w
    exact case_textLength hv hK hI
  | 20, _ =>
    show wpLc_1220 K L xs i d mo x w
    exact case_sealOf hv hK hI
  | 21, _ =>
    show wpLc_1276 K L xs i d mo x w
    exact case_owes hv hK hI
  | 22, _ =>
    show wpLc_1332 K L xs i d mo x w
    exact case_balance hv hK hI
  | 23, _ =>
    show wpLc_1400 K L xs i d mo x w
    exact case_weakest hv hK hI
  | 24, _ =>
    show wpLc_1413 K L xs i d mo x w
    exact case_daysUntilFailed hv hK hI
  | 25, _ =>
    show wpLc_1469 K L xs i d mo x w
    exact case_purseIn hv hK hI
  | 26, _ =>
    show wpLc_1537 K L xs i d mo x w
    exact case_bestToPay hv hK hI
  | 27, _ =>
    show wpLc_1593 K L xs i d mo x w
    exact case_meanPurse hK hI
  | 28, _ =>
    show wpLc_1634 K L xs i d mo x w
    exact case_digest hK hI
  | 29, _ => exact hK d mo x w hI
  | 30, _ => exact hK d mo x w hI
  | 31, _ => exact hK d mo x w hI
  | k + 32, hj => exact absurd hj (by omega)
theorem i_l8 {L k : Nat} (hL : L ≤ 4096) (hk : k < 4105) : (Int32.ofNat L - 8 < nI k) ↔ L < k + 8 := by
  have e : (nI L - nI 8).toInt = (L : Int) - (8 : Nat) := pk_sub_toInt (a := L) (b := 8) (by omega) (by decide)
  show (nI L - nI 8 < nI k) ↔ _
  rw [Int32.lt_iff_toInt_lt, e, nI_toInt (by omega)]
  omega
theorem loop_ok {L : Nat} {xs : Nat → Int32} (hL : L ≤ 4096) : ∀ (n k : Nat) (d : DS) (mo : MS) (x : SS) (w : Nat → Int64), n + k = 513 → 8 * k ≤ L → InvG okX d mo x → wpL_loop L xs n (nI (8 * k)) d mo x w := by
  intro n
  induction n with
  | zero =>
    intro k d mo x w h1 h2 _
    exact absurd h2 (by omega)
  | succ n ih =>
    intro k d mo x w h1 h2 hI
    rw [wpL_loop]
    intro c
    have h3 : 8 * k + 8 ≤ L := by
      have z : ¬ L < 8 * k + 8 := fun z => c ((i_l8 hL (by omega)).mpr z)
      omega
    have hv : ∀ c : Nat, c < 8 → vp_in (nI (8 * k) + nI c) L := by
      intro c hc
      rw [nI_add]
      exact vp_in_nI (by omega) (by omega)
    have e8 : nI (8 * k) + 8 = nI (8 * (k + 1)) := nI_add (8 * k) 8
    refine ⟨vp_in_nI (by omega) (by omega), fun j hj _ => op_ok hv (fun d mo x w hI => ?_) hI j hj⟩
    show wpL_loop L xs n (nI (8 * k) + 8) d mo x w
    rw [e8]
    exact ih (k + 1) d mo x w (by omega) (by omega) hI
theorem inv_0 (q : Nat) : InvG okX ds0 ms0 (ss0 q) := by
  refine ⟨0, 0, ts0, bs0, bs0, 0, (fun _ => 0), (fun _ => 0), 0, rfl, rfl, ⟨rfl, rfl, fun _ _ => rfl, fun _ _ => ⟨rfl, rfl, rfl⟩⟩, ⟨rfl, by decide, by decide, fun d h => absurd h (Nat.not_lt_zero d)⟩, fun d h => absurd h (Nat.not_lt_zero d), fun d h => absurd h (Nat.not_lt_zero d), fun d h => absurd h (Nat.not_lt_zero d), (fun _ => 0), 0, by decide, rfl, Nat.zero_le _, Or.inl rfl, fun j h => absurd h (Nat.not_lt_zero j), sb_fit0⟩
theorem hmath_ok {L : Nat} {xs : Nat → Int32} (hL : L ≤ 4096) (q : Nat) : wpL_loop L xs 513 0 ds0 ms0 (ss0 q) (fun _ => 0) := by
  have r := loop_ok (xs := xs) hL 513 0 ds0 ms0 (ss0 q) (fun _ => 0) rfl (Nat.zero_le _) (inv_0 q)
  rw [Nat.mul_zero, nI_0] at r
  exact r

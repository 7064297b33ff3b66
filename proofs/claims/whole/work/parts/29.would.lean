/-! WHAT WOULD BE: purseIn, bestToPay, weakest. -/
theorem nI_nm1 {d : Nat} (h : d < 2 ^ 31) : ¬ nI d = -1 := by
  intro z
  have e := congrArg Int32.toInt z
  rw [nI_toInt h] at e
  have e1 : (-1 : Int32).toInt = -1 := by decide
  omega
section AH
variable {T : TS} {n P : Nat} {b a : BS} {th t PP : Int32} {f k : Nat → Int32}
theorem g_ahead {post : Int32 → DS → Prop} {q m : Nat} (hT : okT T n P) (hq : q < 6) (hm : m < 2 ^ 31) (h : post ((gLive T n m b).2.1 q) (b, (gLive T n m b).2, T, PP, t)) : wpX2_coinsAhead post (b, a, T, PP, t) (nI q) (-1) (nI m) := by
  unfold wpX2_coinsAhead wpX2_coinsAhead_b24 wpX0_copyFrom
  rw [r_cl hq]
  exact ⟨fun _ => g_live hm hT ⟨vp_in_nI hq (by decide), h⟩, fun z => absurd rfl z⟩
theorem g_ahead1 {post : Int32 → DS → Prop} {q m d : Nat} (hT : okT T n P) (hq : q < 6) (hd : d < n) (hm : m < 2 ^ 31) (h : post ((gLive T n m (gSettle T n b d)).2.1 q) (b, (gLive T n m (gSettle T n b d)).2, T, PP, t)) : wpX2_coinsAhead post (b, a, T, PP, t) (nI q) (nI d) (nI m) := by
  have h20 := hT.2.1
  unfold wpX2_coinsAhead wpX2_coinsAhead_b24 wpX0_copyFrom
  rw [r_cl hq]
  exact ⟨fun z => absurd z (nI_nm1 (by omega)), fun _ => g_settle hT hd (g_live hm hT ⟨vp_in_nI hq (by decide), h⟩)⟩
theorem r_later {post : Int32 → MS → Prop} {q m : Nat} (hT : okT T n P) (hn : nb b t f) (hB : okB n b) (hq : q < 6) (hm : m < 2 ^ 31) (h : post ((gLive T n m b).2.1 q) (mkM th P n T f f)) : wpX3_later post (mkM th P n T f k) (nI q) (nI m) := by
  unfold wpX3_later wpX3_keep wpX3_bringBack
  rw [e_2, c_68 (j := 2 + q) (by omega)]
  refine r_daysOn (th := th) (P := P) (n := n) (T := T) (f := f) (k := f) hm hT hn hB (fun f' hn' => ⟨v_68 (by omega), ?_⟩)
  have e : (mkM th P n T f' f).2.2.2.2.2.2.2.2.2.2.1 (2 + q) = (gLive T n m b).2.1 q := hn'.2.2.1 q hq
  rw [e]
  exact h
/-- the best of the first j duties to pay, and the purse then -/
def gBest (T : TS) (n : Nat) (b : BS) (q : Nat) : Nat → Int32 × Int32
  | 0 => (-1, (gLive T n 60 b).2.1 q)
  | j + 1 => if T.1 j = nI q ∧ gCan T b j then (if (gLive T n 60 (gSettle T n b j)).2.1 q ≤ (gBest T n b q j).2 then gBest T n b q j else (nI j, (gLive T n 60 (gSettle T n b j)).2.1 q)) else gBest T n b q j
theorem g_bestL {post : Int32 → DS → Prop} {px : String → Prop} {q : Nat} (hT : okT T n P) (hq : q < 6) (h : ∀ a, post (gBest T n b q n).1 (b, a, T, PP, t)) : ∀ (fu j : Nat) (a : BS), j + fu = n → wpX2_bestToPay_b19 post px (nI q) (fu + 1) (gBest T n b q j).1 (gBest T n b q j).2 (nI j) (b, a, T, PP, t) := by
  have h20 := hT.2.1
  intro fu
  induction fu with
  | zero =>
    intro j a hj
    have e : j = n := by omega
    subst e
    rw [wpX2_bestToPay_b19]
    exact br_t ((g_cnt hT (by omega)).mpr (by omega)) (h a)
  | succ fu ih =>
    intro j a hj
    have hj20 : j < 20 := by omega
    rw [wpX2_bestToPay_b19]
    refine br_f (fun z => by have := (g_cnt hT (by omega)).mp z; omega) ?_
    have r := fun a => ih (j + 1) a (by omega)
    unfold wpX2_bestToPay_b80
    rw [nI_1, g_cl hj20]
    refine ⟨g_vi hj20, fun c => g_canBePaid hT (by omega) (fun c2 => b_1 (g_ahead1 (m := 60) hT hq (by omega) (by decide) ⟨fun c3 => ?_, fun c3 => ?_⟩)) (fun c2 => b_0 ?_), fun c => ?_⟩
    · have e : gBest T n b q (j + 1) = gBest T n b q j := by rw [gBest, if_pos ⟨c, c2⟩, if_pos c3]
      rw [e] at r
      exact r _
    · have e : gBest T n b q (j + 1) = (nI j, (gLive T n 60 (gSettle T n b j)).2.1 q) := by rw [gBest, if_pos ⟨c, c2⟩, if_neg c3]
      rw [e] at r
      exact r _
    · have e : gBest T n b q (j + 1) = gBest T n b q j := by rw [gBest, if_neg (fun z => c2 z.2)]
      rw [e] at r
      exact r _
    · have e : gBest T n b q (j + 1) = gBest T n b q j := by rw [gBest, if_neg (fun z => c z.1)]
      rw [e] at r
      exact r _
theorem r_bestL {post : Int32 → MS → Prop} {q : Nat} (hT : okT T n P) (hn : nb b t f) (hB : okB n b) (hq : q < 6) (h : ∀ k, post (gBest T n b q n).1 (mkM th P n T f k)) : ∀ (fu j : Nat) (k : Nat → Int32), j + fu = n → wpX3_best_b13 post (nI q) (fu + 1) (gBest T n b q j).1 (gBest T n b q j).2 (nI j) (mkM th P n T f k) := by
  have h20 := hT.2.1
  intro fu
  induction fu with
  | zero =>
    intro j k hj
    have e : j = n := by omega
    subst e
    rw [wpX3_best_b13]
    exact br_t ((r_cnt h20 (by omega)).mpr (by omega)) (h k)
  | succ fu ih =>
    intro j k hj
    have hj20 : j < 20 := by omega
    rw [wpX3_best_b13]
    refine br_f (fun z => by have := (r_cnt h20 (by omega)).mp z; omega) ?_
    have r := fun k => ih (j + 1) k (by omega)
    unfold wpX3_best_b90 wpX3_keep wpX3_bringBack
    rw [nI_1, g_cl hj20, e_2, c_68 (j := 2 + q) (by omega)]
    refine ⟨g_vi hj20, fun c => r_canPay (th := th) (k := k) hT hn (by omega) (fun c2 => b_1 (r_paid (th := th) (k := f) hT hn (by omega) (fun f1 hn1 => r_daysOn (th := th) (f := f1) (k := f) (m := 60) (by decide) hT hn1 (gSettle_ok hT (by omega) hB) (fun f2 hn2 => ⟨v_68 (by omega), ?_⟩)))) (fun c2 => b_0 ?_), fun c => ?_⟩
    · have ef : (mkM th P n T f2 f).2.2.2.2.2.2.2.2.2.2.1 (2 + q) = (gLive T n 60 (gSettle T n b j)).2.1 q := hn2.2.2.1 q hq
      rw [ef]
      refine ⟨fun c3 => ?_, fun c3 => ?_⟩
      · have e : gBest T n b q (j + 1) = (nI j, (gLive T n 60 (gSettle T n b j)).2.1 q) := by rw [gBest, if_pos ⟨c, c2⟩, if_neg (Int32.not_le.mpr c3)]
        rw [e] at r
        exact r _
      · have e : gBest T n b q (j + 1) = gBest T n b q j := by rw [gBest, if_pos ⟨c, c2⟩, if_pos (Int32.not_lt.mp c3)]
        rw [e] at r
        exact r _
    · have e : gBest T n b q (j + 1) = gBest T n b q j := by rw [gBest, if_neg (fun z => c2 z.2)]
      rw [e] at r
      exact r _
    · have e : gBest T n b q (j + 1) = gBest T n b q j := by rw [gBest, if_neg (fun z => c z.1)]
      rw [e] at r
      exact r _
theorem g_best {post : Int32 → DS → Prop} {px : String → Prop} {p : Int32} (hT : okT T n P) (h1 : ∀ q, q < P → p = nI q → ∀ a, post (gBest T n b q n).1 (b, a, T, nI P, t)) (h0 : (¬ ∃ q, q < P ∧ p = nI q) → px "java/lang/IndexOutOfBoundsException") : wpX2_bestToPay post px (b, a, T, nI P, t) p := by
  have h6 := hT.2.2.1
  unfold wpX2_bestToPay
  refine d_party (by omega) (fun q hq e => ?_) h0
  subst e
  refine g_ahead (m := 60) hT (by omega) (by decide) ⟨n + 1, ?_⟩
  have r := g_bestL (post := post) (px := px) (b := b) (PP := nI P) (t := t) hT (show q < 6 by omega) (h1 q hq rfl) n 0 (gLive T n 60 b).2 (Nat.zero_add n)
  rw [nI_0] at r
  exact r
theorem r_best {post : Int32 → MS → Prop} {q : Nat} (hT : okT T n P) (hn : nb b t f) (hB : okB n b) (hq : q < 6) (h : ∀ k, post (gBest T n b q n).1 (mkM th P n T f k)) : wpX3_best post (mkM th P n T f k) (nI q) := by
  unfold wpX3_best
  refine r_later (m := 60) hT hn hB hq (by decide) ⟨n + 1, ?_⟩
  have r := r_bestL (post := post) (th := th) hT hn hB hq h n 0 f (Nat.zero_add n)
  rw [nI_0] at r
  exact r
/-- the weakest of the first j parties, and how far beyond -/
def gWeak (T : TS) (n : Nat) (b : BS) : Nat → Int32 × Int32
  | 0 => (-1, 0)
  | j + 1 => if gOwe T b (nI j) n - b.1 j ≤ (gWeak T n b j).2 then gWeak T n b j else (nI j, gOwe T b (nI j) n - b.1 j)
theorem g_weakL {post : Int32 → Prop} (hT : okT T n P) (h : post (gWeak T n b P).1) : ∀ (fu j : Nat), j + fu = P → wpX2_weakest_b6 post (b, a, T, nI P, t) (fu + 1) (gWeak T n b j).1 (gWeak T n b j).2 (nI j) := by
  have h6 := hT.2.2.1
  intro fu
  induction fu with
  | zero =>
    intro j hj
    have e : j = P := by omega
    subst e
    rw [wpX2_weakest_b6]
    exact br_t ((nI_leI (by omega) (by omega)).mpr (Nat.le_refl _)) h
  | succ fu ih =>
    intro j hj
    rw [wpX2_weakest_b6]
    refine br_f (fun z => by have := (nI_leI (by omega) (by omega)).mp (show nI P ≤ nI j from z); omega) ?_
    have r := ih (j + 1) (by omega)
    unfold wpX2_weakest_b42
    rw [nI_1, r_cl (by omega)]
    refine g_owes hT (fun q hq e => ⟨vp_in_nI (by omega) (by decide), fun c => ?_, fun c => ?_⟩) (fun c => c ⟨j, by omega, rfl⟩)
    · have e : gWeak T n b (j + 1) = gWeak T n b j := by rw [gWeak, if_pos c]
      rw [e] at r
      exact r
    · have e : gWeak T n b (j + 1) = (nI j, gOwe T b (nI j) n - b.1 j) := by rw [gWeak, if_neg c]
      rw [e] at r
      exact r
theorem g_weak {post : Int32 → Prop} (hT : okT T n P) (h : post (gWeak T n b P).1) : wpX2_weakest post (b, a, T, nI P, t) := by
  refine ⟨P + 1, ?_⟩
  have r := g_weakL (post := post) (a := a) (t := t) hT h P 0 (Nat.zero_add P)
  rw [nI_0] at r
  exact r
theorem r_weakL {post : Int32 → Prop} (hT : okT T n P) (hn : nb b t f) (h : post (gWeak T n b P).1) : ∀ (fu j : Nat), j + fu = P → wpX3_weak_b6 post (mkM th P n T f k) (fu + 1) (gWeak T n b j).1 (gWeak T n b j).2 (nI j) := by
  have h6 := hT.2.2.1
  intro fu
  induction fu with
  | zero =>
    intro j hj
    have e : j = P := by omega
    subst e
    rw [wpX3_weak_b6]
    exact br_t ((nI_leI (by omega) (by omega)).mpr (Nat.le_refl _)) h
  | succ fu ih =>
    intro j hj
    rw [wpX3_weak_b6]
    refine br_f (fun z => by have := (nI_leI (by omega) (by omega)).mp (show nI P ≤ nI j from z); omega) ?_
    have r := ih (j + 1) (by omega)
    unfold wpX3_weak_b44
    rw [nI_1, e_2, c_68 (j := 2 + j) (by omega)]
    have ef : (mkM th P n T f k).2.2.2.2.2.2.2.2.2.2.1 (2 + j) = b.1 j := hn.2.2.1 j (by omega)
    rw [ef]
    refine r_owed hT hn ⟨v_68 (by omega), fun c => ?_, fun c => ?_⟩
    · have e : gWeak T n b (j + 1) = (nI j, gOwe T b (nI j) n - b.1 j) := by rw [gWeak, if_neg (Int32.not_le.mpr c)]
      rw [e] at r
      exact r
    · have e : gWeak T n b (j + 1) = gWeak T n b j := by rw [gWeak, if_pos (Int32.not_lt.mp c)]
      rw [e] at r
      exact r
theorem r_weak {post : Int32 → Prop} (hT : okT T n P) (hn : nb b t f) (h : post (gWeak T n b P).1) : wpX3_weak post (mkM th P n T f k) := by
  refine ⟨P + 1, ?_⟩
  have r := r_weakL (post := post) (th := th) (k := k) hT hn h P 0 (Nat.zero_add P)
  rw [nI_0] at r
  exact r
end AH
section CV
variable {K : Int32 → DS → MS → SS → (Nat → Int64) → Prop} {X : TS → Nat → SS → Prop} {L : Nat} {xs : Nat → Int32} {i : Int32} {d : DS} {mo : MS} {x : SS} {w : Nat → Int64}
theorem case_weakest (hv : ∀ c : Nat, c < 8 → vp_in (i + nI c) L) (hK : ∀ d mo x w, InvG X d mo x → K (i + 8) d mo x w) (hI : InvG X d mo x) : wpLc_1400 K L xs i d mo x w := by
  obtain ⟨P, n, T, b, a, t, f, k, th, rfl, rfl, hn, hT, hB, hX⟩ := hI
  have h20 := hT.2.1
  have h6 := hT.2.2.1
  have v1 : vp_in (i + 1) L := hv 1 (by decide)
  unfold wpLc_1400 wpX3_weakest wpX3_ok
  exact g_weak hT (r_weak (th := th) (k := k) hT hn ⟨fun _ => hK _ _ _ _ ⟨P, n, T, b, a, t, f, k, 0, rfl, rfl, hn, hT, hB, hX⟩, fun z => z rfl⟩)
theorem case_purseIn (hv : ∀ c : Nat, c < 8 → vp_in (i + nI c) L) (hK : ∀ d mo x w, InvG X d mo x → K (i + 8) d mo x w) (hI : InvG X d mo x) : wpLc_1469 K L xs i d mo x w := by
  obtain ⟨P, n, T, b, a, t, f, k, th, rfl, rfl, hn, hT, hB, hX⟩ := hI
  have h20 := hT.2.1
  have h6 := hT.2.2.1
  have v1 : vp_in (i + 1) L := hv 1 (by decide)
  have v2 : vp_in (i + 2) L := hv 2 (by decide)
  unfold wpLc_1469 wpL_purseIn wpX2_purseIn wpX3_purseIn
  generalize xs (i + 1).toNatClampNeg = p
  generalize xs (i + 2).toNatClampNeg = c9
  refine ⟨v1, v2, d_party (by omega) (fun q hq e => ?_) (fun c => Or.inl ⟨rfl, v1, v2, ?_⟩)⟩
  · subst e
    refine d_within (fun c1 c2 => ?_) (fun c => Or.inr ⟨rfl, v1, v2, ?_⟩)
    · obtain ⟨m, hm, rfl⟩ : ∃ m, m < 61 ∧ c9 = nI m := by
        refine (i_idx (by decide)).mp ⟨fun z => c1 ?_, ?_⟩
        · rw [Int32.lt_iff_toInt_lt] at z ⊢
          rw [Int32.toInt_zero] at z
          exact Int.lt_trans z (by decide)
        · rw [Int32.le_iff_toInt_le] at c2
          rw [Int32.lt_iff_toInt_lt]
          exact Int.lt_of_le_of_lt c2 (by decide)
      refine g_ahead hT (by omega) (by omega) ⟨v1, v2, r_isParty (th := 0) (P := P) (n := n) (T := T) (f := f) (k := k) (by omega) (fun _ _ _ => b_1 (r_isFrom (fun _ _ => b_1 (r_later (th := 0) (P := P) (n := n) (T := T) (f := f) (k := k) hT hn hB (by omega) (by omega) ?_)) (fun z => absurd ⟨c1, c2⟩ z))) (fun c => absurd ⟨q, hq, rfl⟩ c)⟩
      exact t_ok2 rfl rfl (hK _ _ _ _ ⟨P, n, T, b, (gLive T n m b).2, t, f, f, 0, rfl, rfl, hn, hT, hB, hX⟩)
    · exact r_isParty (th := 0) (P := P) (n := n) (T := T) (f := f) (k := k) (by omega) (fun _ _ _ => b_1 (r_isFrom (fun c1 c2 => absurd ⟨c1, c2⟩ c) (fun _ => b_0 (t_no (by decide) rfl (hK _ _ _ _ ⟨P, n, T, b, a, t, f, k, 2, rfl, rfl, hn, hT, hB, hX⟩))))) (fun c => absurd ⟨q, hq, rfl⟩ c)
  · exact r_isParty (th := 0) (P := P) (n := n) (T := T) (f := f) (k := k) (by omega) (fun q h1 h2 => absurd ⟨q, h1, h2⟩ c) (fun _ => b_0 (t_no (by decide) rfl (hK _ _ _ _ ⟨P, n, T, b, a, t, f, k, 1, rfl, rfl, hn, hT, hB, hX⟩)))
theorem case_bestToPay (hv : ∀ c : Nat, c < 8 → vp_in (i + nI c) L) (hK : ∀ d mo x w, InvG X d mo x → K (i + 8) d mo x w) (hI : InvG X d mo x) : wpLc_1537 K L xs i d mo x w := by
  obtain ⟨P, n, T, b, a, t, f, k, th, rfl, rfl, hn, hT, hB, hX⟩ := hI
  have h20 := hT.2.1
  have h6 := hT.2.2.1
  have v1 : vp_in (i + 1) L := hv 1 (by decide)
  unfold wpLc_1537 wpL_bestToPay wpX3_bestToPay
  generalize xs (i + 1).toNatClampNeg = p
  refine ⟨v1, g_best hT (fun q hq e a' => ⟨v1, ?_⟩) (fun c => ⟨rfl, v1, ?_⟩)⟩
  · subst e
    exact r_isParty (th := 0) (P := P) (n := n) (T := T) (f := f) (k := k) (by omega) (fun _ _ _ => b_1 (r_best (th := 0) (P := P) (n := n) (T := T) (f := f) (k := k) hT hn hB (by omega) (fun k' => t_ok2 rfl rfl (hK _ _ _ _ ⟨P, n, T, b, a', t, f, k', 0, rfl, rfl, hn, hT, hB, hX⟩)))) (fun c => absurd ⟨q, hq, rfl⟩ c)
  · exact r_isParty (th := 0) (P := P) (n := n) (T := T) (f := f) (k := k) (by omega) (fun q h1 h2 => absurd ⟨q, h1, h2⟩ c) (fun _ => b_0 (t_no (by decide) rfl (hK _ _ _ _ ⟨P, n, T, b, a, t, f, k, 1, rfl, rfl, hn, hT, hB, hX⟩)))
end CV

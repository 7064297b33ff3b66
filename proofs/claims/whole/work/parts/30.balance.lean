/-! BALANCE: what two parties owe each other. -/
def gOB (T : TS) (b : BS) (p q : Int32) : Nat → Int32
  | 0 => 0
  | j + 1 => gOB T b p q j + (if T.1 j = p ∧ T.2.1 j = q then gPrice T b j else 0)
section BL
variable {T : TS} {n P : Nat} {b a : BS} {th t PP : Int32} {f k : Nat → Int32} {p q : Int32}
theorem g_obL {post : Int32 → Prop} (hT : okT T n P) (h : post (gOB T b p q n)) : ∀ (fu j : Nat), j + fu = n → wpX2_owedBetween_b5 post (b, a, T, PP, t) p q (fu + 1) (gOB T b p q j) (nI j) := by
  have h20 := hT.2.1
  intro fu
  induction fu with
  | zero =>
    intro j hj
    have e : j = n := by omega
    subst e
    rw [wpX2_owedBetween_b5]
    exact br_t ((g_cnt hT (by omega)).mpr (by omega)) h
  | succ fu ih =>
    intro j hj
    have hj20 : j < 20 := by omega
    rw [wpX2_owedBetween_b5]
    refine br_f (fun z => by have := (g_cnt hT (by omega)).mp z; omega) ?_
    have r := ih (j + 1) (by omega)
    unfold wpX2_owedBetween_b57
    rw [nI_1, g_cl hj20]
    refine ⟨g_vi hj20, fun c => ⟨g_vi hj20, fun c2 => g_price hj20 ?_, fun c2 => ?_⟩, fun c => ?_⟩
    · rw [gOB, if_pos ⟨c, c2⟩] at r
      exact r
    · rw [gOB, if_neg (fun z => c2 z.2), Int32.add_zero] at r
      exact r
    · rw [gOB, if_neg (fun z => c z.1), Int32.add_zero] at r
      exact r
theorem g_ob {post : Int32 → Prop} (hT : okT T n P) (h : post (gOB T b p q n)) : wpX2_owedBetween post (b, a, T, PP, t) p q := by
  refine ⟨n + 1, ?_⟩
  have r := g_obL (post := post) (a := a) (PP := PP) (t := t) hT h n 0 (Nat.zero_add n)
  rw [nI_0] at r
  exact r
theorem i_ab (x y u v : Int32) : x - y + u - v = x + u - (y + v) := by
  rw [Int32.sub_eq_add_neg, Int32.sub_eq_add_neg, Int32.sub_eq_add_neg, Int32.neg_add, Int32.sub_eq_add_neg, Int32.add_assoc x (-y) u, Int32.add_comm (-y) u, ← Int32.add_assoc x u (-y), Int32.add_assoc (x + u) (-y) (-v)]
theorem r_btL {post : Int32 → Prop} (hT : okT T n P) (hn : nb b t f) (h : post (gOB T b q p n - gOB T b p q n)) : ∀ (fu j : Nat), j + fu = n → wpX3_between_b5 post (mkM th P n T f k) p q (fu + 1) (gOB T b q p j - gOB T b p q j) (nI j) := by
  have h20 := hT.2.1
  intro fu
  induction fu with
  | zero =>
    intro j hj
    have e : j = n := by omega
    subst e
    rw [wpX3_between_b5]
    exact br_t ((r_cnt h20 (by omega)).mpr (by omega)) h
  | succ fu ih =>
    intro j hj
    have hj20 : j < 20 := by omega
    rw [wpX3_between_b5]
    refine br_f (fun z => by have := (r_cnt h20 (by omega)).mp z; omega) ?_
    have r := ih (j + 1) (by omega)
    have e : gOB T b q p (j + 1) - gOB T b p q (j + 1) = gOB T b q p j - gOB T b p q j + (if T.1 j = q ∧ T.2.1 j = p then gPrice T b j else 0) - (if T.1 j = p ∧ T.2.1 j = q then gPrice T b j else 0) := by
      rw [gOB, gOB, i_ab]
    rw [e] at r
    have key : ∀ y : Int32, y = gOB T b q p j - gOB T b p q j + (if T.1 j = q ∧ T.2.1 j = p then gPrice T b j else 0) → wpX3_between_b45 post (mkM th P n T f k) p q (fun z0 z1 => wpX3_between_b5 post (mkM th P n T f k) p q (fu + 1) z0 z1) y (nI j) := by
      intro y ey
      rw [← ey] at r
      unfold wpX3_between_b45 wpX3_between_b76
      rw [nI_1, g_cl hj20]
      refine ⟨g_vi hj20, fun c => ⟨g_vi hj20, fun c2 => r_price hn hj20 ?_, fun c2 => ?_⟩, fun c => ?_⟩
      · have c : T.1 j = p := c
        have c2 : T.2.1 j = q := c2
        rw [if_pos ⟨c, c2⟩] at r
        exact r
      · have c2 : ¬ T.2.1 j = q := c2
        rw [if_neg (fun z => c2 z.2), Int32.sub_zero] at r
        exact r
      · have c : ¬ T.1 j = p := c
        rw [if_neg (fun z => c z.1), Int32.sub_zero] at r
        exact r
    rw [g_cl hj20]
    refine ⟨g_vi hj20, fun c => ⟨g_vi hj20, fun c2 => r_price hn hj20 (key _ ?_), fun c2 => key _ ?_⟩, fun c => key _ ?_⟩
    · have c : T.1 j = q := c
      have c2 : T.2.1 j = p := c2
      rw [if_pos ⟨c, c2⟩]
    · have c2 : ¬ T.2.1 j = p := c2
      rw [if_neg (fun z => c2 z.2), Int32.add_zero]
    · have c : ¬ T.1 j = q := c
      rw [if_neg (fun z => c z.1), Int32.add_zero]
theorem r_bt {post : Int32 → Prop} (hT : okT T n P) (hn : nb b t f) (h : post (gOB T b q p n - gOB T b p q n)) : wpX3_between post (mkM th P n T f k) p q := by
  refine ⟨n + 1, ?_⟩
  have r := r_btL (post := post) (th := th) (k := k) hT hn h n 0 (Nat.zero_add n)
  rw [nI_0] at r
  have e : gOB T b q p 0 - gOB T b p q 0 = 0 := Int32.sub_self 0
  rw [e] at r
  exact r
end BL
section CW
variable {K : Int32 → DS → MS → SS → (Nat → Int64) → Prop} {X : TS → Nat → SS → Prop} {L : Nat} {xs : Nat → Int32} {i : Int32} {d : DS} {mo : MS} {x : SS} {w : Nat → Int64}
theorem case_balance (hv : ∀ c : Nat, c < 8 → vp_in (i + nI c) L) (hK : ∀ d mo x w, InvG X d mo x → K (i + 8) d mo x w) (hI : InvG X d mo x) : wpLc_1332 K L xs i d mo x w := by
  obtain ⟨P, n, T, b, a, t, f, k, th, rfl, rfl, hn, hT, hB, hX⟩ := hI
  have h20 := hT.2.1
  have h6 := hT.2.2.1
  have v1 : vp_in (i + 1) L := hv 1 (by decide)
  have v2 : vp_in (i + 2) L := hv 2 (by decide)
  unfold wpLc_1332 wpL_balance wpX2_balance wpX3_balance
  generalize xs (i + 1).toNatClampNeg = p
  generalize xs (i + 2).toNatClampNeg = p2
  refine ⟨v1, v2, d_party (by omega) (fun q hq e => d_party (by omega) (fun q2 hq2 e2 => ?_) (fun c => ⟨rfl, v1, v2, ?_⟩)) (fun c => ⟨rfl, v1, v2, ?_⟩)⟩
  · exact g_ob hT (g_ob hT ⟨v1, v2, r_isParty (th := 0) (P := P) (n := n) (T := T) (f := f) (k := k) (by omega) (fun _ _ _ => b_1 (r_isParty (th := 0) (P := P) (n := n) (T := T) (f := f) (k := k) (by omega) (fun _ _ _ => b_1 (r_bt (th := 0) (P := P) (n := n) (T := T) (f := f) (k := k) hT hn (t_ok2 rfl rfl (hK _ _ _ _ ⟨P, n, T, b, a, t, f, k, 0, rfl, rfl, hn, hT, hB, hX⟩)))) (fun c => absurd ⟨q2, hq2, e2⟩ c))) (fun c => absurd ⟨q, hq, e⟩ c)⟩)
  · exact r_isParty (th := 0) (P := P) (n := n) (T := T) (f := f) (k := k) (by omega) (fun _ _ _ => b_1 (r_isParty (th := 0) (P := P) (n := n) (T := T) (f := f) (k := k) (by omega) (fun q h1 h2 => absurd ⟨q, h1, h2⟩ c) (fun _ => b_0 (t_no (by decide) rfl (hK _ _ _ _ ⟨P, n, T, b, a, t, f, k, 1, rfl, rfl, hn, hT, hB, hX⟩))))) (fun c => absurd ⟨q, hq, e⟩ c)
  · exact r_isParty (th := 0) (P := P) (n := n) (T := T) (f := f) (k := k) (by omega) (fun q h1 h2 => absurd ⟨q, h1, h2⟩ c) (fun _ => b_0 (t_no (by decide) rfl (hK _ _ _ _ ⟨P, n, T, b, a, t, f, k, 1, rfl, rfl, hn, hT, hB, hX⟩)))
end CW

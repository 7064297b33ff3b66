/-! THE DIGEST: the reference's side, and the case. -/
section DB
variable {T : TS} {n P : Nat} {b : BS} {th t : Int32} {f : Nat → Int32} {p : Nat}
abbrev okS (x : SS) : Prop := ∃ t m, m ≤ 34 ∧ txt x t m
theorem r_dg4 {post : Int64 → MS → SS → Prop} (hT : okT T n P) (hE : okE T n) (hG : okG T n) (hn : nb b t f) (hB : okB n b) : ∀ (fu j : Nat) (x : Int64) (k : Nat → Int32) (s : SS), j + fu = n → okS s → (∀ k' s', okS s' → post (gFor (gU4 T b n) fu j x) (mkM th P n T f k') s') → wpX3_digest_b191 post (fu + 1) x (nI j) (mkM th P n T f k) s := by
  have h20 := hT.2.1
  have c0 : ((0 : Int32).toNatClampNeg) = 0 := by decide
  have c1 : ((1 : Int32).toNatClampNeg) = 1 := by decide
  have c2 : ((2 : Int32).toNatClampNeg) = 2 := by decide
  have c3 : ((3 : Int32).toNatClampNeg) = 3 := by decide
  have c4 : ((4 : Int32).toNatClampNeg) = 4 := by decide
  have c5 : ((5 : Int32).toNatClampNeg) = 5 := by decide
  have c6 : ((6 : Int32).toNatClampNeg) = 6 := by decide
  have c7 : ((7 : Int32).toNatClampNeg) = 7 := by decide
  intro fu
  induction fu with
  | zero =>
    intro j x k s hj hs h
    rw [wpX3_digest_b191]
    exact br_t ((r_cnt h20 (by omega)).mpr (by omega)) (h k s hs)
  | succ fu ih =>
    intro j x k s hj hs h
    have hd : j < n := by omega
    rw [wpX3_digest_b191]
    refine br_f (fun z => by have := (r_cnt h20 (by omega)).mp z; omega) ?_
    have r := fun k' s' hs' => ih (j + 1) (gU4 T b n j x) k' s' (by omega) hs' h
    rw [nI_1, e_28, e_48, c_68 (j := 28 + j) (by omega), c_68 (j := 48 + j) (by omega), c0, c1, c2, c3, c4, c5, c6, c7]
    have e1 : (mkM th P n T f k).2.2.2.2.2.2.2.2.2.2.1 (28 + j) = b.2.2.1 j := (hn.2.2.2 j (by omega)).2.1
    have e2 : (mkM th P n T f k).2.2.2.2.2.2.2.2.2.2.1 (48 + j) = b.2.2.2.1 j := (hn.2.2.2 j (by omega)).2.2
    rw [e1, e2]
    refine r_state hn (by omega) ⟨v_68 (by omega), v_68 (by omega), r_price hn (by omega) (r_behind hT hE hd (r_depth hE h20 hd (r_seal hT hs hd (fun x' hx' => r_until hT hn hB hd (fun k' => ?_)))))⟩
    rw [← (hG j hd).2]
    exact r k' x' hx'
theorem r_dg2 {post : Int64 → MS → SS → Prop} {K : Int64 → Int32 → MS → SS → Prop} {s : SS} (hT : okT T n P) (hn : nb b t f) (hB : okB n b) (hp : p < P) : ∀ (fu j : Nat) (x : Int64) (k : Nat → Int32), j + fu = P → (∀ k', K (gH (gH (gFor (gU2 T b n p) fu j x) ((gLive T n 30 b).2.1 p)) (gBest T n b p n).1) (nI (p + 1)) (mkM th P n T f k') s) → wpX3_digest_b127 post K (fu + 1) x (nI p) (nI j) (mkM th P n T f k) s := by
  have h6 := hT.2.2.1
  intro fu
  induction fu with
  | zero =>
    intro j x k hj h
    rw [wpX3_digest_b127]
    refine br_t ((nI_leI (by omega) (by omega)).mpr (show P ≤ j by omega)) ?_
    rw [nI_1]
    exact r_later (m := 30) hT hn hB (by omega) (by decide) (r_best hT hn hB (by omega) h)
  | succ fu ih =>
    intro j x k hj h
    rw [wpX3_digest_b127]
    refine br_f (fun z => by have := (nI_leI (by omega) (by omega)).mp (show nI P ≤ nI j from z); omega) ?_
    have r := ih (j + 1) (gU2 T b n p j x) k (by omega) h
    rw [gU2] at r
    rw [nI_1]
    exact r_bt hT hn r
theorem r_dg3 {post : Int64 → MS → SS → Prop} {s : SS} (hT : okT T n P) (hE : okE T n) (hG : okG T n) (hn : nb b t f) (hB : okB n b) (hs : okS s) : ∀ (fu j : Nat) (x : Int64) (k : Nat → Int32), j + fu = P → (∀ k' s', okS s' → post (gFor (gU4 T b n) n 0 (gFor (gU3 T b n P) fu j x)) (mkM th P n T f k') s') → wpX3_digest_b89 post (fu + 1) x (nI j) (mkM th P n T f k) s := by
  have h20 := hT.2.1
  have h6 := hT.2.2.1
  intro fu
  induction fu with
  | zero =>
    intro j x k hj h
    rw [wpX3_digest_b89]
    refine br_t ((nI_leI (by omega) (by omega)).mpr (show P ≤ j by omega)) ⟨n + 1, by omega, ?_⟩
    have r := r_dg4 (post := post) (th := th) hT hE hG hn hB n 0 x k s (Nat.zero_add n) hs h
    rw [nI_0] at r
    exact r
  | succ fu ih =>
    intro j x k hj h
    rw [wpX3_digest_b89]
    refine br_f (fun z => by have := (nI_leI (by omega) (by omega)).mp (show nI P ≤ nI j from z); omega) ?_
    rw [e_2, c_68 (j := 2 + j) (by omega)]
    have e1 : (mkM th P n T f k).2.2.2.2.2.2.2.2.2.2.1 (2 + j) = b.1 j := hn.2.2.1 j (by omega)
    rw [e1]
    refine ⟨v_68 (by omega), r_owed hT hn ⟨P + 1, ?_⟩⟩
    have r := r_dg2 (post := post) (K := fun z0 z1 z2 z3 => wpX3_digest_b89 post (fu + 1) z0 z1 z2 z3) (th := th) (s := s) hT hn hB (show j < P by omega) P 0 (gH (gH x (b.1 j)) (gOwe T b (nI j) n)) k (Nat.zero_add P) (fun k' => ih (j + 1) (gU3 T b n P j x) k' (by omega) h)
    rw [nI_0] at r
    exact r
theorem r_dg1 {post : Int64 → MS → SS → Prop} {s : SS} (hT : okT T n P) (hE : okE T n) (hG : okG T n) (hn : nb b t f) (hB : okB n b) (hs : okS s) : ∀ (fu j : Nat) (x : Int64) (k : Nat → Int32), j + fu = 6 → (∀ k' s', okS s' → post (gFor (gU4 T b n) n 0 (gFor (gU3 T b n P) P 0 (gH (gH (gFor (gU1 b n) fu j x) b.2.2.2.2) (gWeak T n b P).1))) (mkM th P n T f k') s') → wpX3_digest_b39 post (fu + 1) x (nI j) (mkM th P n T f k) s := by
  intro fu
  induction fu with
  | zero =>
    intro j x k hj h
    rw [wpX3_digest_b39]
    have c1 : ((1 : Int32).toNatClampNeg) = 1 := by decide
    rw [c1]
    have e1 : (mkM th P n T f k).2.2.2.2.2.2.2.2.2.2.1 1 = b.2.2.2.2 := hn.2.1
    rw [e1]
    refine br_t ((i_6 (by omega)).mpr (by omega)) ⟨v_68 (j := 1) (by decide), r_weak hT hn ⟨P + 1, ?_⟩⟩
    have r := r_dg3 (post := post) (th := th) hT hE hG hn hB hs P 0 (gH (gH x b.2.2.2.2) (gWeak T n b P).1) k (Nat.zero_add P) h
    rw [nI_0] at r
    exact r
  | succ fu ih =>
    intro j x k hj h
    rw [wpX3_digest_b39]
    refine br_f (fun z => by have := (i_6 (by omega)).mp z; omega) ?_
    have r := ih (j + 1) (gU1 b n j x) k (by omega) h
    rw [gU1] at r
    rw [nI_1]
    exact r_count hT hn r
theorem r_digest {post : Int64 → MS → SS → Prop} {s : SS} {k : Nat → Int32} (hT : okT T n P) (hE : okE T n) (hG : okG T n) (hn : nb b t f) (hB : okB n b) (hs : okS s) (h : ∀ k' s', okS s' → post (gDg T b t n P) (mkM 0 P n T f k') s') : wpX3_digest post (mkM th P n T f k) s := by
  unfold wpX3_digest
  have c0 : ((0 : Int32).toNatClampNeg) = 0 := by decide
  rw [c0]
  have e1 : (mkM th P n T f k).2.2.2.2.2.2.2.2.2.2.1 0 = t := hn.1
  rw [e1]
  refine ⟨v_68 (j := 0) (by decide), 7, ?_⟩
  have r := r_dg1 (post := post) (th := 0) hT hE hG hn hB hs 6 0 (gH (gH ((70339 : Int64) + t.toInt64) (nI P)) (nI n)) k rfl h
  rw [nI_0] at r
  exact r
end DB
theorem case_digest {K : Int32 → DS → MS → SS → (Nat → Int64) → Prop} {L : Nat} {xs : Nat → Int32} {i : Int32} {d : DS} {mo : MS} {x : SS} {w : Nat → Int64} (hK : ∀ d mo x w, InvG okX d mo x → K (i + 8) d mo x w) (hI : InvG okX d mo x) : wpLc_1634 K L xs i d mo x w := by
  obtain ⟨P, n, T, b, a, t, f, k, th, rfl, rfl, hn, hT, hB, hX⟩ := hI
  unfold wpLc_1634
  exact g_digest hT hX.1 (fun a' => r_digest hT hX.1 hX.2.1 hn hB hX.2.2 (fun k' s' hs' => ⟨fun _ => hK _ _ _ _ ⟨P, n, T, b, a', t, f, k', 0, rfl, rfl, hn, hT, hB, hX.1, hX.2.1, hs'⟩, fun c => c (lg_self _)⟩))

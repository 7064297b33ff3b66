/-! THE DIGEST, as one function of terms and book; the class's side. -/
abbrev gH (x : Int64) (v : Int32) : Int64 := x * (31 : Int64) + v.toInt64
def gU1 (b : BS) (n : Nat) (j : Nat) (x : Int64) : Int64 := gH x (gCnt b (nI j) n)
def gU2 (T : TS) (b : BS) (n p : Nat) (j : Nat) (x : Int64) : Int64 := gH x (gOB T b (nI j) (nI p) n - gOB T b (nI p) (nI j) n)
def gU3 (T : TS) (b : BS) (n P : Nat) (p : Nat) (x : Int64) : Int64 := gH (gH (gFor (gU2 T b n p) P 0 (gH (gH x (b.1 p)) (gOwe T b (nI p) n))) ((gLive T n 30 b).2.1 p)) (gBest T n b p n).1
def gU4 (T : TS) (b : BS) (n : Nat) (d : Nat) (x : Int64) : Int64 := gH (gH (gH (gH (gH (gH (gH (gH x (b.2.1 d)) (b.2.2.1 d)) (b.2.2.2.1 d)) (gPrice T b d)) (gBh T d n)) (T.2.2.2.2.2.2.2.1 d)) (T.2.2.2.2.2.2.2.2.2.1 d)) (gUntil T b d)
def gDg (T : TS) (b : BS) (t : Int32) (n P : Nat) : Int64 := gFor (gU4 T b n) n 0 (gFor (gU3 T b n P) P 0 (gH (gH (gFor (gU1 b n) 6 0 (gH (gH ((70339 : Int64) + t.toInt64) (nI P)) (nI n))) b.2.2.2.2) (gWeak T n b P).1))
section DA
variable {T : TS} {n P : Nat} {b a : BS} {t PP : Int32} {d p : Nat} {px : String → Prop}
theorem g_stateOf {post : Int32 → Prop} (hT : okT T n P) (hd : d < n) (h : post (b.2.1 d)) : wpX2_stateOf post px (b, a, T, PP, t) (nI d) := by
  have h20 := hT.2.1
  unfold wpX2_stateOf
  refine d_duty hT (fun _ _ _ => ?_) (fun c => absurd ⟨d, hd, rfl⟩ c)
  rw [g_cl (by omega)]
  exact ⟨g_vi (by omega), h⟩
theorem g_daysLeft {post : Int32 → Prop} (hT : okT T n P) (hd : d < n) (h : post (b.2.2.1 d)) : wpX2_daysLeft post px (b, a, T, PP, t) (nI d) := by
  have h20 := hT.2.1
  unfold wpX2_daysLeft
  refine d_duty hT (fun _ _ _ => ?_) (fun c => absurd ⟨d, hd, rfl⟩ c)
  rw [g_cl (by omega)]
  exact ⟨g_vi (by omega), h⟩
theorem g_stoppedFor {post : Int32 → Prop} (hT : okT T n P) (hd : d < n) (h : post (b.2.2.2.1 d)) : wpX2_stoppedFor post px (b, a, T, PP, t) (nI d) := by
  have h20 := hT.2.1
  unfold wpX2_stoppedFor
  refine d_duty hT (fun _ _ _ => ?_) (fun c => absurd ⟨d, hd, rfl⟩ c)
  rw [g_cl (by omega)]
  exact ⟨g_vi (by omega), h⟩
theorem g_priceOf {post : Int32 → Prop} (hT : okT T n P) (hd : d < n) (h : post (gPrice T b d)) : wpX2_priceOf post px (b, a, T, PP, t) (nI d) := by
  have h20 := hT.2.1
  unfold wpX2_priceOf
  exact d_duty hT (fun _ _ _ => g_price (by omega) h) (fun c => absurd ⟨d, hd, rfl⟩ c)
theorem g_hanging1 {post : Int32 → Prop} (hT : okT T n P) (hE : okE T n) (hd : d < n) (h : post (gBh T d n)) : wpX2_hanging post px (b, a, T, PP, t) (nI d) := by
  have h20 := hT.2.1
  refine g_hanging hT hE (fun q hq e => ?_) (fun c => absurd ⟨d, hd, rfl⟩ c)
  have e1 : d = q := (nI_eq (by omega) (by omega)).mp e
  rw [← e1]
  exact h
theorem g_depthOf {post : Int32 → Prop} (hT : okT T n P) (hd : d < n) (h : post (T.2.2.2.2.2.2.2.1 d)) : wpX2_depthOf post px (b, a, T, PP, t) (nI d) := by
  have h20 := hT.2.1
  unfold wpX2_depthOf
  refine d_duty hT (fun _ _ _ => ?_) (fun c => absurd ⟨d, hd, rfl⟩ c)
  rw [g_cl (by omega)]
  exact ⟨g_vi (by omega), h⟩
theorem g_sealOf {post : Int32 → Prop} (hT : okT T n P) (hd : d < n) (h : post (T.2.2.2.2.2.2.2.2.2.1 d)) : wpX2_sealOf post px (b, a, T, PP, t) (nI d) := by
  have h20 := hT.2.1
  unfold wpX2_sealOf
  refine d_duty hT (fun _ _ _ => ?_) (fun c => absurd ⟨d, hd, rfl⟩ c)
  rw [g_cl (by omega)]
  exact ⟨g_vi (by omega), h⟩
theorem g_until1 {post : Int32 → Prop} (hT : okT T n P) (hd : d < n) (h : post (gUntil T b d)) : wpX2_daysUntilFailed post px (b, a, T, PP, t) (nI d) := by
  have h20 := hT.2.1
  refine g_until hT (fun q hq e => ?_) (fun c => absurd ⟨d, hd, rfl⟩ c)
  have e1 : d = q := (nI_eq (by omega) (by omega)).mp e
  rw [← e1]
  exact h
theorem g_purseOf {post : Int32 → Prop} (hT : okT T n P) (hp : p < P) (h : post (b.1 p)) : wpX2_purseOf post px (b, a, T, nI P, t) (nI p) := by
  have h6 := hT.2.2.1
  unfold wpX2_purseOf
  refine d_party (by omega) (fun _ _ _ => ?_) (fun c => absurd ⟨p, hp, rfl⟩ c)
  rw [r_cl (by omega)]
  exact ⟨vp_in_nI (by omega) (by decide), h⟩
theorem g_balance {post : Int32 → Prop} {q : Nat} (hT : okT T n P) (hp : p < P) (hq : q < P) (h : post (gOB T b (nI q) (nI p) n - gOB T b (nI p) (nI q) n)) : wpX2_balance post px (b, a, T, nI P, t) (nI p) (nI q) := by
  have h6 := hT.2.2.1
  unfold wpX2_balance
  exact d_party (by omega) (fun _ _ _ => d_party (by omega) (fun _ _ _ => g_ob hT (g_ob hT h)) (fun c => absurd ⟨q, hq, rfl⟩ c)) (fun c => absurd ⟨p, hp, rfl⟩ c)
theorem g_purseIn1 {post : Int32 → DS → Prop} (hT : okT T n P) (hp : p < P) (h : post ((gLive T n 30 b).2.1 p) (b, (gLive T n 30 b).2, T, nI P, t)) : wpX2_purseIn post px (b, a, T, nI P, t) (nI p) 30 := by
  have h6 := hT.2.2.1
  unfold wpX2_purseIn
  exact d_party (by omega) (fun _ _ _ => d_within (fun _ _ => g_ahead (m := 30) hT (by omega) (by decide) h) (fun c => absurd (show ¬ (30 : Int32) < 1 ∧ (30 : Int32) ≤ 60 by decide +kernel) c)) (fun c => absurd ⟨p, hp, rfl⟩ c)
theorem g_best1 {post : Int32 → DS → Prop} (hT : okT T n P) (hp : p < P) (h : ∀ a, post (gBest T n b p n).1 (b, a, T, nI P, t)) : wpX2_bestToPay post px (b, a, T, nI P, t) (nI p) := by
  have h6 := hT.2.2.1
  refine g_best hT (fun q hq e => ?_) (fun c => absurd ⟨p, hp, rfl⟩ c)
  have e1 : p = q := (nI_eq (by omega) (by omega)).mp e
  rw [← e1]
  exact h
theorem i_6 {j : Nat} (hj : j ≤ 6) : ((5 : Int32) < nI j) ↔ j = 6 := by
  rw [show (5 : Int32) = nI 5 from rfl, nI_ltI (by decide) (by omega)]
  omega
theorem i_05 {j : Nat} (hj : j < 6) : ¬ nI j < 0 ∧ nI j ≤ 5 := by
  rw [show (5 : Int32) = nI 5 from rfl, ← nI_0, nI_ltI (by omega) (by decide), nI_leI (by omega) (by decide)]
  omega
theorem g_inState1 {post : Int32 → Prop} {j : Nat} (hT : okT T n P) (hj : j < 6) (h : post (gCnt b (nI j) n)) : wpX2_inState post px (b, a, T, PP, t) (nI j) := by
  unfold wpX2_inState
  exact d_within (fun _ _ => g_inState hT h) (fun c => absurd (i_05 hj) c)
theorem g_dg4 {post : Int64 → DS → Prop} (hT : okT T n P) (hE : okE T n) : ∀ (fu j : Nat) (x : Int64), j + fu = n → post (gFor (gU4 T b n) fu j x) (b, a, T, PP, t) → wpX2_digest_b195 post (fu + 1) x (nI j) (b, a, T, PP, t) := by
  have h20 := hT.2.1
  intro fu
  induction fu with
  | zero =>
    intro j x hj h
    rw [wpX2_digest_b195]
    exact br_t ((g_cnt hT (by omega)).mpr (by omega)) h
  | succ fu ih =>
    intro j x hj h
    have hd : j < n := by omega
    rw [wpX2_digest_b195]
    refine br_f (fun z => by have := (g_cnt hT (by omega)).mp z; omega) ?_
    have r := ih (j + 1) (gU4 T b n j x) (by omega) h
    rw [gU4] at r
    rw [nI_1]
    exact g_stateOf hT hd (g_daysLeft hT hd (g_stoppedFor hT hd (g_priceOf hT hd (g_hanging1 hT hE hd (g_depthOf hT hd (g_sealOf hT hd (g_until1 hT hd r)))))))
theorem g_dg2 {post : Int64 → DS → Prop} {K : Int64 → Int32 → DS → Prop} (hT : okT T n P) (hp : p < P) : ∀ (fu j : Nat) (x : Int64), j + fu = P → (∀ a', K (gH (gH (gFor (gU2 T b n p) fu j x) ((gLive T n 30 b).2.1 p)) (gBest T n b p n).1) (nI (p + 1)) (b, a', T, nI P, t)) → wpX2_digest_b129 post K (fu + 1) x (nI p) (nI j) (b, a, T, nI P, t) := by
  have h6 := hT.2.2.1
  intro fu
  induction fu with
  | zero =>
    intro j x hj h
    rw [wpX2_digest_b129]
    refine br_t ((nI_leI (by omega) (by omega)).mpr (show P ≤ j by omega)) ?_
    rw [nI_1]
    exact g_purseIn1 hT hp (g_best1 hT hp h)
  | succ fu ih =>
    intro j x hj h
    rw [wpX2_digest_b129]
    refine br_f (fun z => by have := (nI_leI (by omega) (by omega)).mp (show nI P ≤ nI j from z); omega) ?_
    have r := ih (j + 1) (gU2 T b n p j x) (by omega) h
    rw [gU2] at r
    rw [nI_1]
    exact g_balance hT hp (by omega) r
theorem g_dg3 {post : Int64 → DS → Prop} (hT : okT T n P) (hE : okE T n) : ∀ (fu j : Nat) (x : Int64) (a : BS), j + fu = P → (∀ a', post (gFor (gU4 T b n) n 0 (gFor (gU3 T b n P) fu j x)) (b, a', T, nI P, t)) → wpX2_digest_b92 post (fu + 1) x (nI j) (b, a, T, nI P, t) := by
  have h6 := hT.2.2.1
  intro fu
  induction fu with
  | zero =>
    intro j x a hj h
    rw [wpX2_digest_b92]
    refine br_t ((nI_leI (by omega) (by omega)).mpr (show P ≤ j by omega)) ⟨n + 1, ?_⟩
    have r := g_dg4 (post := post) (a := a) (PP := nI P) (t := t) hT hE n 0 x (Nat.zero_add n) (h a)
    rw [nI_0] at r
    exact r
  | succ fu ih =>
    intro j x a hj h
    rw [wpX2_digest_b92]
    refine br_f (fun z => by have := (nI_leI (by omega) (by omega)).mp (show nI P ≤ nI j from z); omega) ?_
    refine g_purseOf hT (by omega) (g_owes hT (fun _ _ _ => ⟨P + 1, ?_⟩) (fun c => absurd ⟨j, by omega, rfl⟩ c))
    have r := g_dg2 (post := post) (K := fun z0 z1 z2 => wpX2_digest_b92 post (fu + 1) z0 z1 z2) (b := b) (a := a) (t := t) hT (show j < P by omega) P 0 (gH (gH x (b.1 j)) (gOwe T b (nI j) n)) (Nat.zero_add P) (fun a' => ih (j + 1) (gU3 T b n P j x) a' (by omega) h)
    rw [nI_0] at r
    exact r
theorem g_dg1 {post : Int64 → DS → Prop} (hT : okT T n P) (hE : okE T n) : ∀ (fu j : Nat) (x : Int64) (a : BS), j + fu = 6 → (∀ a', post (gFor (gU4 T b n) n 0 (gFor (gU3 T b n P) P 0 (gH (gH (gFor (gU1 b n) fu j x) b.2.2.2.2) (gWeak T n b P).1))) (b, a', T, nI P, t)) → wpX2_digest_b42 post (fu + 1) x (nI j) (b, a, T, nI P, t) := by
  intro fu
  induction fu with
  | zero =>
    intro j x a hj h
    rw [wpX2_digest_b42]
    unfold wpX2_penalties
    refine br_t ((i_6 (by omega)).mpr (by omega)) (g_weak hT ⟨P + 1, ?_⟩)
    have r := g_dg3 (post := post) (b := b) (t := t) hT hE P 0 (gH (gH x b.2.2.2.2) (gWeak T n b P).1) a (Nat.zero_add P) h
    rw [nI_0] at r
    exact r
  | succ fu ih =>
    intro j x a hj h
    rw [wpX2_digest_b42]
    refine br_f (fun z => by have := (i_6 (by omega)).mp z; omega) ?_
    have r := ih (j + 1) (gU1 b n j x) a (by omega) h
    rw [gU1] at r
    rw [nI_1]
    exact g_inState1 hT (by omega) r
theorem g_digest {post : Int64 → DS → Prop} (hT : okT T n P) (hE : okE T n) (h : ∀ a', post (gDg T b t n P) (b, a', T, nI P, t)) : wpX2_digest post (b, a, T, nI P, t) := by
  unfold wpX2_digest wpX2_day wpX2_parties wpX2_duties
  have r := g_dg1 (post := post) (b := b) (t := t) hT hE 6 0 (gH (gH ((70339 : Int64) + t.toInt64) (nI P)) (nI n)) a rfl h
  have e : (2269 : Int64) * (31 : Int64) = 70339 := by decide +kernel
  rw [nI_0, ← e] at r
  have k : ∀ c : Int32, c = nI n → wpX2_digest_b42 post 7 (gH (gH ((2269 : Int64) * (31 : Int64) + t.toInt64) (nI P)) c) 0 (b, a, T, nI P, t) := by
    intro c ec
    rw [ec]
    exact r
  exact ⟨7, k _ hT.1⟩
end DA

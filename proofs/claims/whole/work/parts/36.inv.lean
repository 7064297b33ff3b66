/-! THE INVARIANT'S LAST PART, and the cases textLength and sealOf. -/
def txD (T : TS) (d : Nat) : TX := gTx (T.1 d).toNatClampNeg (T.2.2.1 d).toNatClampNeg (T.2.1 d).toNatClampNeg (if T.2.2.2.2.2.2.1 d = -1 then none else some (T.2.2.2.2.2.2.1 d).toNatClampNeg)
def okG (T : TS) (n : Nat) : Prop := ∀ d, d < n → T.2.2.2.2.2.2.2.2.1 d = nI (txD T d).2 ∧ T.2.2.2.2.2.2.2.2.2.1 d = gSeal (txD T d).1 (txD T d).2
/-- the depths and texts of the terms; the reference's text -/
def okX (T : TS) (n : Nat) (x : SS) : Prop := okE T n ∧ okG T n ∧ ∃ t m, m ≤ 34 ∧ txt x t m
theorem gTx_len {de am cr : Nat} {o : Option Nat} (hde : de < 100) (ham : am < 100) (hcr : cr < 100) (ho : ∀ k, o = some k → k < 100) : (gTx de am cr o).2 ≤ 34 := by
  have b1 := dg_2 hde
  have b2 := dg_2 ham
  have b3 := dg_2 hcr
  have e57 : sx_X1_57.length = 6 := rfl
  have e62 : sx_X1_62.length = 4 := rfl
  have e64 : sx_X1_64.length = 7 := rfl
  cases o with
  | none =>
    simp only [gTx, gTx3, apI, apS, apC]
    omega
  | some k =>
    have b4 := dg_2 (ho k rfl)
    simp only [gTx, gTx3, apI, apS, apC]
    omega
section TXS
variable {T : TS} {n P : Nat} {th : Int32} {f k : Nat → Int32} {d : Nat}
theorem txD_at (hT : okT T n P) (hd : d < n) : ∃ de am cr, de < 100 ∧ am < 100 ∧ cr < 100 ∧ T.1 d = nI de ∧ T.2.2.1 d = nI am ∧ T.2.1 d = nI cr ∧ ((T.2.2.2.2.2.2.1 d = -1 ∧ txD T d = gTx de am cr none) ∨ ∃ u, u < 100 ∧ T.2.2.2.2.2.2.1 d = nI u ∧ txD T d = gTx de am cr (some u)) := by
  obtain ⟨h1, h20, h6, h4⟩ := hT
  obtain ⟨⟨p, p1, p2⟩, ⟨q, q1, q2⟩, ⟨a, a0, a1, a2⟩, -, -, -, g⟩ := h4 d hd
  refine ⟨p, a, q, by omega, by omega, by omega, p2, a2, q2, ?_⟩
  have ep : (nI p).toNatClampNeg = p := nI_clamp (by omega)
  have eq : (nI q).toNatClampNeg = q := nI_clamp (by omega)
  have ea : (nI a).toNatClampNeg = a := nI_clamp (by omega)
  rcases g with g | ⟨u, u1, u2⟩
  · refine Or.inl ⟨g, ?_⟩
    unfold txD
    rw [p2, q2, a2, ep, eq, ea, if_pos g]
  · refine Or.inr ⟨u, by omega, u2, ?_⟩
    have eu : (nI u).toNatClampNeg = u := nI_clamp (by omega)
    unfold txD
    rw [p2, q2, a2, ep, eq, ea, u2, if_neg (nI_nm1 (by omega)), eu]
theorem txD_len (hT : okT T n P) (hd : d < n) : (txD T d).2 ≤ 34 := by
  obtain ⟨de, am, cr, h1, h2, h3, -, -, -, g⟩ := txD_at hT hd
  rcases g with ⟨-, g⟩ | ⟨u, u1, -, g⟩
  · rw [g]
    exact gTx_len h1 h2 h3 (fun k z => by cases z)
  · rw [g]
    exact gTx_len h1 h2 h3 (fun k z => by cases z; exact u1)
theorem r_writeD {post : MS → SS → Prop} {x : SS} (hT : okT T n P) (hx : ∃ t m, m ≤ 34 ∧ txt x t m) (hd : d < n) (h : ∀ x', txt x' (txD T d).1 (txD T d).2 → post (mkM th P n T f k) x') : wpX3_write post (mkM th P n T f k) x (nI d) := by
  have h20 := hT.2.1
  obtain ⟨t, m, hm, hx⟩ := hx
  obtain ⟨de, am, cr, h1, h2, h3, e1, e2, e3, g⟩ := txD_at hT hd
  rcases g with ⟨ha, g⟩ | ⟨u, u1, ha, g⟩
  · rw [g] at h
    exact r_write0 hx hm h1 h2 h3 (by omega) e1 e2 e3 ha h
  · rw [g] at h
    exact r_write1 hx hm h1 h2 h3 u1 (by omega) e1 e2 e3 ha h
theorem r_written {post : Int32 → MS → SS → Prop} {x : SS} (hT : okT T n P) (hx : ∃ t m, m ≤ 34 ∧ txt x t m) (hd : d < n) (h : ∀ x', (∃ t m, m ≤ 34 ∧ txt x' t m) → post (nI (txD T d).2) (mkM th P n T f k) x') : wpX3_written post (mkM th P n T f k) x (nI d) := by
  unfold wpX3_written wpJ4_length_8abf5 wpJ5_length_8abf5
  refine r_writeD hT hx hd (fun x' hx' => ?_)
  have q := h x' ⟨_, _, txD_len hT hd, hx'⟩
  rw [← hx'.1] at q
  exact q
theorem r_seal {post : Int32 → MS → SS → Prop} {x : SS} (hT : okT T n P) (hx : ∃ t m, m ≤ 34 ∧ txt x t m) (hd : d < n) (h : ∀ x', (∃ t m, m ≤ 34 ∧ txt x' t m) → post (gSeal (txD T d).1 (txD T d).2) (mkM th P n T f k) x') : wpX3_seal post (mkM th P n T f k) x (nI d) := by
  unfold wpX3_seal
  refine r_writeD hT hx hd (fun x' hx' => ⟨(txD T d).2 + 1, ?_⟩)
  have r := r_sealL (post := post) (mo := mkM th P n T f k) (p0 := nI d) hx' (txD_len hT hd) (h x' ⟨_, _, txD_len hT hd, hx'⟩) (txD T d).2 0 (Nat.zero_add _)
  rw [nI_0] at r
  exact r
end TXS
section CZ
variable {K : Int32 → DS → MS → SS → (Nat → Int64) → Prop} {L : Nat} {xs : Nat → Int32} {i : Int32} {d : DS} {mo : MS} {x : SS} {w : Nat → Int64}
theorem case_textLength (hv : ∀ c : Nat, c < 8 → vp_in (i + nI c) L) (hK : ∀ d mo x w, InvG okX d mo x → K (i + 8) d mo x w) (hI : InvG okX d mo x) : wpLc_1164 K L xs i d mo x w := by
  obtain ⟨P, n, T, b, a, t, f, k, th, rfl, rfl, hn, hT, hB, hX⟩ := hI
  have h20 := hT.2.1
  have h6 := hT.2.2.1
  have v1 : vp_in (i + 1) L := hv 1 (by decide)
  unfold wpLc_1164 wpL_textLength wpX2_textLength wpX3_textLength
  generalize xs (i + 1).toNatClampNeg = p
  refine ⟨v1, d_duty hT (fun q hq e => ?_) (fun c => ⟨rfl, v1, ?_⟩)⟩
  · subst e
    have hq20 : q < 20 := by omega
    rw [g_cl hq20]
    exact ⟨g_vi hq20, v1, r_isDuty (th := 0) (P := P) (n := n) (T := T) (f := f) (k := k) (by omega) (fun _ _ _ => b_1 (r_written (th := 0) (P := P) (n := n) (T := T) (f := f) (k := k) hT hX.2.2 hq (fun x' hx' => t_ok2 rfl (hX.2.1 q hq).1.symm (hK _ _ _ _ ⟨P, n, T, b, a, t, f, k, 0, rfl, rfl, hn, hT, hB, hX.1, hX.2.1, hx'⟩)))) (fun c => absurd ⟨q, hq, rfl⟩ c)⟩
  · exact r_isDuty (th := 0) (P := P) (n := n) (T := T) (f := f) (k := k) (by omega) (fun q h1 h2 => absurd ⟨q, h1, h2⟩ c) (fun _ => b_0 (t_no (by decide) rfl (hK _ _ _ _ ⟨P, n, T, b, a, t, f, k, 1, rfl, rfl, hn, hT, hB, hX⟩)))
theorem case_sealOf (hv : ∀ c : Nat, c < 8 → vp_in (i + nI c) L) (hK : ∀ d mo x w, InvG okX d mo x → K (i + 8) d mo x w) (hI : InvG okX d mo x) : wpLc_1220 K L xs i d mo x w := by
  obtain ⟨P, n, T, b, a, t, f, k, th, rfl, rfl, hn, hT, hB, hX⟩ := hI
  have h20 := hT.2.1
  have h6 := hT.2.2.1
  have v1 : vp_in (i + 1) L := hv 1 (by decide)
  unfold wpLc_1220 wpL_sealOf wpX2_sealOf wpX3_sealOf
  generalize xs (i + 1).toNatClampNeg = p
  refine ⟨v1, d_duty hT (fun q hq e => ?_) (fun c => ⟨rfl, v1, ?_⟩)⟩
  · subst e
    have hq20 : q < 20 := by omega
    rw [g_cl hq20]
    exact ⟨g_vi hq20, v1, r_isDuty (th := 0) (P := P) (n := n) (T := T) (f := f) (k := k) (by omega) (fun _ _ _ => b_1 (r_seal (th := 0) (P := P) (n := n) (T := T) (f := f) (k := k) hT hX.2.2 hq (fun x' hx' => t_ok2 rfl (hX.2.1 q hq).2.symm (hK _ _ _ _ ⟨P, n, T, b, a, t, f, k, 0, rfl, rfl, hn, hT, hB, hX.1, hX.2.1, hx'⟩)))) (fun c => absurd ⟨q, hq, rfl⟩ c)⟩
  · exact r_isDuty (th := 0) (P := P) (n := n) (T := T) (f := f) (k := k) (by omega) (fun q h1 h2 => absurd ⟨q, h1, h2⟩ c) (fun _ => b_0 (t_no (by decide) rfl (hK _ _ _ _ ⟨P, n, T, b, a, t, f, k, 1, rfl, rfl, hn, hT, hB, hX⟩)))
end CZ

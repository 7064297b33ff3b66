/-! Terms.add: the row more, with its text. -/
section AE
variable {T : TS} {n P : Nat} {de am cr : Nat} {p3 p4 p5 p6 dp sg sl : Int32}
theorem txD_new0 (hde : de < 100) (ham : am < 100) (hcr : cr < 100) : txD (addT T n (nI de) (nI cr) (nI am) p3 p4 p5 (-1) dp sg sl) n = gTx de am cr none := by
  unfold txD addT
  simp only [pk_us]
  rw [nI_clamp (n := de) (by omega), nI_clamp (n := am) (by omega), nI_clamp (n := cr) (by omega), if_pos trivial]
theorem txD_new1 {u : Nat} (hde : de < 100) (ham : am < 100) (hcr : cr < 100) (hu : u < 100) : txD (addT T n (nI de) (nI cr) (nI am) p3 p4 p5 (nI u) dp sg sl) n = gTx de am cr (some u) := by
  unfold txD addT
  simp only [pk_us]
  rw [nI_clamp (n := de) (by omega), nI_clamp (n := am) (by omega), nI_clamp (n := cr) (by omega), if_neg (nI_nm1 (by omega)), nI_clamp (n := u) (by omega)]
theorem g_add0 {post : Int32 → TS → Prop} (hT : okT T n P) (hn : n < 20) (hde : de < 100) (ham : am < 100) (hcr : cr < 100) (h : post (nI n) (addT T n (nI de) (nI cr) (nI am) p3 p4 p5 (-1) 0 (nI (gTx de am cr none).2) (gSeal (gTx de am cr none).1 (gTx de am cr none).2))) : wpX1_add post T (nI de) (nI cr) (nI am) p3 p4 p5 (-1) := by
  have v := g_vi hn
  unfold wpX1_add wpX1_add_b91
  rw [hT.1, g_cl hn]
  refine ⟨v, v, v, v, v, v, v, fun _ => ⟨v, g_keep0 hde ham hcr hn pk_us pk_us pk_us pk_us ?_⟩, fun z => absurd rfl z⟩
  rw [nI_1]
  exact h
theorem g_add1 {post : Int32 → TS → Prop} {u : Nat} (hT : okT T n P) (hn : n < 20) (hde : de < 100) (ham : am < 100) (hcr : cr < 100) (hu : u < n) (h : post (nI n) (addT T n (nI de) (nI cr) (nI am) p3 p4 p5 (nI u) (T.2.2.2.2.2.2.2.1 u + 1) (nI (gTx de am cr (some u)).2) (gSeal (gTx de am cr (some u)).1 (gTx de am cr (some u)).2))) : wpX1_add post T (nI de) (nI cr) (nI am) p3 p4 p5 (nI u) := by
  have v := g_vi hn
  unfold wpX1_add wpX1_add_b91
  rw [hT.1, g_cl hn, g_cl (d := u) (by omega)]
  refine ⟨v, v, v, v, v, v, v, fun z => absurd z (nI_nm1 (by omega)), fun _ => ⟨g_vi (by omega), v, g_keep1 (k := u) hde ham hcr (by omega) hn pk_us pk_us pk_us pk_us ?_⟩⟩
  rw [nI_1]
  exact h
end AE

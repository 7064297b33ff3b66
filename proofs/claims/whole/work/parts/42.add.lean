/-! THE CASE addDuty. -/
theorem i_rng {p : Int32} {lo hi : Nat} (hl : lo < 2 ^ 30) (hh : hi < 2 ^ 30) (h1 : ¬ p < nI lo) (h2 : p ≤ nI hi) : ∃ a, lo ≤ a ∧ a ≤ hi ∧ p = nI a := by
  rw [Int32.lt_iff_toInt_lt, nI_toInt (by omega)] at h1
  rw [Int32.le_iff_toInt_le, nI_toInt (by omega)] at h2
  refine ⟨p.toInt.toNat, by omega, by omega, ?_⟩
  apply Int32.toInt_inj.mp
  rw [nI_toInt (by omega)]
  omega
theorem case_addDuty {K : Int32 → DS → MS → SS → (Nat → Int64) → Prop} {L : Nat} {xs : Nat → Int32} {i : Int32} {d : DS} {mo : MS} {x : SS} {w : Nat → Int64} (hv : ∀ c : Nat, c < 8 → vp_in (i + nI c) L) (hK : ∀ d mo x w, InvG okX d mo x → K (i + 8) d mo x w) (hI : InvG okX d mo x) : wpLc_228 K L xs i d mo x w := by
  obtain ⟨P, n, T, b, a, t, f, k, th, rfl, rfl, hn, hT, hB, hX⟩ := hI
  have h20 := hT.2.1
  have h6 := hT.2.2.1
  have v1 : vp_in (i + 1) L := hv 1 (by decide)
  have v2 : vp_in (i + 2) L := hv 2 (by decide)
  have v3 : vp_in (i + 3) L := hv 3 (by decide)
  have v4 : vp_in (i + 4) L := hv 4 (by decide)
  have v5 : vp_in (i + 5) L := hv 5 (by decide)
  have v6 : vp_in (i + 6) L := hv 6 (by decide)
  have v7 : vp_in (i + 7) L := hv 7 (by decide)
  unfold wpLc_228 wpL_addDuty
  generalize xs (i + 1).toNatClampNeg = p0
  generalize xs (i + 2).toNatClampNeg = p1
  generalize xs (i + 3).toNatClampNeg = p2
  generalize xs (i + 4).toNatClampNeg = p3
  generalize xs (i + 5).toNatClampNeg = p4
  generalize xs (i + 6).toNatClampNeg = p5
  generalize xs (i + 7).toNatClampNeg = p6
  refine ⟨v1, v2, v3, v4, v5, v6, v7, g_addDuty hT (fun c => Or.inl ⟨rfl, v1, v2, v3, v4, v5, v6, v7, ?_⟩) (fun A y => Or.inr (Or.inl ⟨rfl, v1, v2, v3, v4, v5, v6, v7, ?_⟩)) (fun A y z => Or.inr (Or.inr ⟨rfl, v1, v2, v3, v4, v5, v6, v7, ?_⟩)) (fun A y z => ?_)⟩
  · exact r_addDuty hT hn hB (fun _ => t_no (by decide) rfl (hK _ _ _ _ ⟨P, n, T, b, a, t, f, k, 1, rfl, rfl, hn, hT, hB, hX⟩)) (fun A => absurd A c) (fun A => absurd A c) (fun A => absurd A c)
  · exact r_addDuty hT hn hB (fun c => absurd A c) (fun _ _ => t_no (by decide) rfl (hK _ _ _ _ ⟨P, n, T, b, a, t, f, k, 2, rfl, rfl, hn, hT, hB, hX⟩)) (fun _ y2 => absurd y2 y) (fun _ y2 => absurd y2 y)
  · exact r_addDuty hT hn hB (fun c => absurd A c) (fun _ y2 => absurd y y2) (fun _ _ _ => t_no (by decide) rfl (hK _ _ _ _ ⟨P, n, T, b, a, t, f, k, 3, rfl, rfl, hn, hT, hB, hX⟩)) (fun _ _ z2 => absurd z2 z)
  · obtain ⟨y0, ⟨ya1, ya2⟩, ⟨yb1, yb2⟩, ⟨yc1, yc2⟩, ⟨yd1, yd2⟩⟩ := id y
    obtain ⟨am, am1, am2, rfl⟩ := i_rng (lo := 1) (hi := 50) (by decide) (by decide) ya1 ya2
    obtain ⟨dy, dy1, dy2, dy3⟩ := i_rng (lo := 1) (hi := 30) (by decide) (by decide) yb1 yb2
    obtain ⟨cu, -, cu2, cu3⟩ := i_rng (lo := 0) (hi := 10) (by decide) (by decide) yc1 yc2
    obtain ⟨pe, -, pe2, pe3⟩ := i_rng (lo := 0) (hi := 20) (by decide) (by decide) yd1 yd2
    obtain ⟨⟨q0, hq0, rfl⟩, ⟨q1, hq1, rfl⟩, hp6⟩ := id A
    rcases hp6 with rfl | ⟨u, hu, rfl⟩
    · skip
      have hT' := okT_add (dp := 0) (sg := nI (gTx q0 am q1 none).2) (sl := gSeal (gTx q0 am q1 none).1 (gTx q0 am q1 none).2) hT z.1 ⟨q0, hq0, rfl⟩ ⟨q1, hq1, rfl⟩ ⟨am, am1, am2, rfl⟩ ⟨dy, dy1, dy2, dy3⟩ ⟨cu, cu2, cu3⟩ ⟨pe, pe2, pe3⟩ (Or.inl rfl)
      refine g_add0 hT z.1 (by omega) (by omega) (by omega) (g_enter z.1 (Or.inl pk_us) ⟨v1, v2, v3, v4, v5, v6, v7, r_addDuty hT hn hB (fun c => absurd A c) (fun _ y2 => absurd y y2) (fun _ _ z2 => absurd z z2) (fun _ _ _ => r_add (dp := 0) (sg := nI (gTx q0 am q1 none).2) (sl := gSeal (gTx q0 am q1 none).1 (gTx q0 am q1 none).2) z.1 hn hB (Or.inl rfl) (fun f' hn' => ?_))⟩)
      exact t_ok2 rfl rfl (hK _ _ _ _ ⟨P, n + 1, _, _, a, t, f', k, 0, rfl, rfl, hn', hT', gEnter_ok hT' hB, okE_add hX.1 z.1 (Or.inl ⟨rfl, rfl⟩), okG_add hX.2.1 (by rw [txD_new0 (by omega) (by omega) (by omega)]) (by rw [txD_new0 (by omega) (by omega) (by omega)]), hX.2.2⟩)
    · skip
      have hT' := okT_add (dp := (T.2.2.2.2.2.2.2.1 u + 1)) (sg := nI (gTx q0 am q1 (some u)).2) (sl := gSeal (gTx q0 am q1 (some u)).1 (gTx q0 am q1 (some u)).2) hT z.1 ⟨q0, hq0, rfl⟩ ⟨q1, hq1, rfl⟩ ⟨am, am1, am2, rfl⟩ ⟨dy, dy1, dy2, dy3⟩ ⟨cu, cu2, cu3⟩ ⟨pe, pe2, pe3⟩ (Or.inr ⟨u, hu, rfl⟩)
      refine g_add1 hT z.1 (by omega) (by omega) (by omega) hu (g_enter z.1 (Or.inr ⟨u, hu, pk_us⟩) ⟨v1, v2, v3, v4, v5, v6, v7, r_addDuty hT hn hB (fun c => absurd A c) (fun _ y2 => absurd y y2) (fun _ _ z2 => absurd z z2) (fun _ _ _ => r_add (dp := (T.2.2.2.2.2.2.2.1 u + 1)) (sg := nI (gTx q0 am q1 (some u)).2) (sl := gSeal (gTx q0 am q1 (some u)).1 (gTx q0 am q1 (some u)).2) z.1 hn hB (Or.inr ⟨u, hu, rfl⟩) (fun f' hn' => ?_))⟩)
      exact t_ok2 rfl rfl (hK _ _ _ _ ⟨P, n + 1, _, _, a, t, f', k, 0, rfl, rfl, hn', hT', gEnter_ok hT' hB, okE_add hX.1 z.1 (Or.inr ⟨u, hu, rfl, rfl⟩), okG_add hX.2.1 (by rw [txD_new1 (by omega) (by omega) (by omega) (by omega)]) (by rw [txD_new1 (by omega) (by omega) (by omega) (by omega)]), hX.2.2⟩)

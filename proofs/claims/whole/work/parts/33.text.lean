/-! TEXTS: what a StringBuilder holds, and its appends (Latin-1, at most 34 letters). -/
/-- x holds the text of n letters t -/
def txt (x : SS) (t : Nat → Nat) (n : Nat) : Prop := x.2.2.2 = nI n ∧ n ≤ x.2.1.1 ∧ (x.2.1.1 = 16 ∨ x.2.1.1 = 34) ∧ sb_Lat t n x.2.1.2 ∧ sb_Fit x.2.1.2
theorem s_ensure {post : SS → Prop} {x : SS} {t : Nat → Nat} {n q : Nat} (h : txt x t n) (hq : q ≤ 34) (hp : ∀ x', txt x' t n → q ≤ x'.2.1.1 → post x') : wpJ5_ensureCapacityInternal_d00df post x (nI q) := by
  obtain ⟨q0, ⟨m, a⟩, ml, c⟩ := x
  obtain ⟨h1, h2, h3, h4, h5⟩ := id h
  have h2 : n ≤ m := h2
  have h3 : m = 16 ∨ m = 34 := h3
  unfold wpJ5_ensureCapacityInternal_d00df
  rw [sb_shr0]
  have e1 : (nI q - Int32.ofNat m).toInt = (q : Int) - m := pk_sub_toInt (by omega) (by omega)
  refine ⟨fun z => hp _ h ?_, fun z => ?_⟩
  · rw [Int32.le_iff_toInt_le, Int32.toInt_zero] at z
    have e1 : (nI q - Int32.ofNat m).toInt = (q : Int) - m := e1
    show q ≤ m
    have z : (nI q - Int32.ofNat m).toInt ≤ 0 := z
    omega
  · have z : ¬ nI q - Int32.ofNat m ≤ 0 := z
    rw [Int32.le_iff_toInt_le, Int32.toInt_zero, e1] at z
    have hm : m = 16 := by omega
    subst hm
    unfold wpJ5_newCapacity_0f7a4 wpJ8_newLength_cabcc
    have e2 : (nI q <<< ((0 : Int32) &&& 31)) - Int32.ofNat 16 = nI (q - 16) := by
      rw [sb_shl0]
      exact pk_sub (a := q) (b := 16) (by omega)
    have e3 : Int32.ofNat 16 + ((2 : Int32) <<< ((0 : Int32) &&& 31)) = nI 18 := by decide
    have e4 : Int32.ofNat 16 + (if nI (q - 16) < nI 18 then nI 18 else nI (q - 16)) = nI 34 := by
      by_cases c : q - 16 < 18
      · rw [if_pos ((nI_ltI (by omega) (by omega)).mpr c)]
        decide
      · rw [if_neg (fun z => c ((nI_ltI (by omega) (by omega)).mp z)), show q - 16 = 18 by omega]
        decide
    show (Int32.ofNat 16 + (if (nI q <<< ((0 : Int32) &&& 31)) - Int32.ofNat 16 < Int32.ofNat 16 + ((2 : Int32) <<< ((0 : Int32) &&& 31)) then Int32.ofNat 16 + ((2 : Int32) <<< ((0 : Int32) &&& 31)) else (nI q <<< ((0 : Int32) &&& 31)) - Int32.ofNat 16) ≤ 0 → False) ∧ _
    rw [e2, e3, e4]
    refine ⟨fun z => absurd z (by decide), fun _ => ⟨fun z => absurd z (by decide), fun _ => ⟨fun z => absurd z (by decide), fun _ => ?_⟩⟩⟩
    rw [sb_shr0]
    dsimp only
    rw [sb_shl0, nI_clamp (n := 34) (by decide)]
    refine ⟨by decide, by decide, by show 16 ≤ 34; omega, Nat.le_refl _, fun i _ => h5 i, fun q9 => hp _ ⟨h1, by show n ≤ 34; omega, Or.inr rfl, fun j hj => ?_, sb_fitC h5 sb_fit0⟩ hq⟩
    obtain ⟨g1, g2⟩ := h4 j hj
    exact ⟨g1, (show va_cpy a (fun _ => (0 : Int32)) 0 0 16 j = a j from sb_cpy0 (by omega)).trans g2⟩
theorem s_latin {post : Int32 → Prop} {x : SS} (h : post 1) : wpJ5_isLatin1_aae02 post x := ⟨fun z => absurd z (by decide), fun _ => ⟨fun _ => h, fun z => absurd rfl z⟩⟩
/-- append(char) -/
theorem s_char {post : SS → Prop} {x : SS} {t : Nat → Nat} {n c : Nat} (h : txt x t n) (hn : n + 1 ≤ 34) (hc : c < 256) (hp : ∀ x', txt x' (sb_cat t n (fun _ => c)) (n + 1) → post x') : wpJ4_append_cf468 post x (nI c) := by
  unfold wpJ4_append_cf468 wpJ5_append_3fe6f wpJ1_canEncode_fc78d
  rw [h.1, nI_1]
  refine s_ensure h hn (fun x' h' hq => s_latin ⟨fun z => absurd z (by decide), fun _ => ⟨fun z => ?_, fun _ => ⟨fun z => absurd z (by decide), fun _ => ?_⟩⟩⟩)
  · have := (nI_ltI (a := 255) (b := c) (by decide) (by omega)).mp z
    omega
  · obtain ⟨g1, g2, g3, g4, g5⟩ := h'
    rw [g1, nI_clamp (by omega), nI_1]
    refine ⟨vp_in_nI (by omega) (by omega), hp _ ⟨rfl, hq, g3, sb_latPut g4 (fun j hj => pk_un (by omega)) (fun i hi => ?_), sb_fitU g5 (by rw [pk_vb]; exact sb_fitB c)⟩⟩
    obtain rfl : i = 0 := by omega
    refine ⟨hc, ?_⟩
    show upd x'.2.1.2 n (vp_nar .byte (nI c).toInt8.toInt32) (n + 0) = sb_b c
    rw [Nat.add_zero, pk_us, pk_vb]
    rfl
theorem s_neg {v c : Nat} (hv : v < 2 ^ 31) (hc : c < 2 ^ 31) : (-nI v ≤ -nI c) ↔ c ≤ v := sb_nle hv hc
/-- Integer.stringSize of a number less than a hundred -/
theorem s_size {post : Int32 → Prop} {v : Nat} (hv : v < 100) (h : post (nI (sb_dg v))) : wpJ6_stringSize_0f7a4 post (nI v) := by
  unfold wpJ6_stringSize_0f7a4 wpJ6_stringSize_0f7a4_b11
  refine ⟨fun z => absurd z (nI_pos (by omega)), fun _ => ⟨2 + 1, ?_⟩⟩
  rw [wpJ6_stringSize_0f7a4_b16]
  refine ⟨fun z => absurd z (by decide), fun _ => ⟨fun z => ?_, fun z => ?_⟩⟩
  · have z : -nI v ≤ -nI 10 := z
    have z2 := (s_neg (by omega) (by decide)).mp z
    rw [wpJ6_stringSize_0f7a4_b16]
    refine ⟨fun z => absurd z (by decide), fun _ => ⟨fun z => ?_, fun _ => ?_⟩⟩
    · have z : -nI v ≤ -nI 100 := z
      have := (s_neg (by omega) (by decide)).mp z
      omega
    · have e : sb_dg v = 2 := by rw [sb_dg, if_neg (by omega), if_pos hv]
      rw [e] at h
      exact h
  · have z : ¬ -nI v ≤ -nI 10 := z
    have z2 : ¬ 10 ≤ v := fun y => z ((s_neg (by omega) (by decide)).mpr y)
    have e : sb_dg v = 1 := by rw [sb_dg, if_pos (by omega)]
    rw [e] at h
    exact h
theorem s_tab : ∀ v, v < 100 → vp_nar .byte (zdO v) = sb_b (48 + v % 10) ∧ vp_nar .byte (zdT v) = sb_b (48 + v / 10) := by decide +kernel
/-- append(int) of a number less than a hundred -/
theorem s_int {post : SS → Prop} {x : SS} {t : Nat → Nat} {n v : Nat} (h : txt x t n) (hv : v < 100) (hn : n + sb_dg v ≤ 34) (hp : ∀ x', txt x' (sb_cat t n (sb_dec v)) (n + sb_dg v) → post x') : wpJ4_append_bf812 post x (nI v) := by
  unfold wpJ4_append_bf812 wpJ5_append_c97b9 wpJ5_append_c97b9_b48
  refine s_size hv ?_
  rw [h.1, nI_add]
  refine s_ensure h hn (fun x' h' hq => s_latin ⟨fun z => absurd z (by decide), fun _ => ?_⟩)
  obtain ⟨g1, g2, g3, g4, g5⟩ := h'
  obtain ⟨t1, t2⟩ := s_tab v hv
  unfold wpJ6_getChars_ba4f3 wpJ6_getChars_ba4f3_b12
  refine br_t (nI_pos' (by omega)) (br_t rfl ⟨0 + 1, ?_⟩)
  rw [wpJ6_getChars_ba4f3_b22]
  unfold wpJ6_getChars_ba4f3_b104
  have hd : 1 ≤ sb_dg v := by unfold sb_dg; split <;> (try split) <;> omega
  have e0 : -(-nI v) = nI v := Int32.neg_neg
  rw [e0, nI_clamp (n := v) (by omega), sb_m1 (p := n + sb_dg v) (by omega), nI_clamp (n := n + sb_dg v - 1) (by omega), t1, t2]
  have vv : vp_in (nI v) 100 := vp_in_nI hv (by decide)
  refine br_t (show -nI 100 < -nI v from (sb_nlt (by decide) (by omega)).mpr hv) ⟨vv, vp_in_nI (by omega) (by omega), fun z => br_t rfl ?_, fun z => ?_⟩
  · have z : -nI 9 ≤ -nI v := z
    have z2 := (sb_nle (by decide) (by omega)).mp z
    have e : sb_dg v = 1 := by rw [sb_dg, if_pos (by omega)]
    rw [e] at hq hp ⊢
    refine hp _ ⟨rfl, hq, g3, sb_latPut g4 (fun j hj => pk_un (by omega)) (fun i hi => ?_), sb_fitU g5 (sb_fitB _)⟩
    obtain rfl : i = 0 := by omega
    refine ⟨by unfold sb_dec; omega, ?_⟩
    show upd x'.2.1.2 (n + 1 - 1) (sb_b (48 + v % 10)) (n + 0) = sb_b (sb_dec v 0)
    rw [show n + 1 - 1 = n + 0 by omega, pk_us]
    unfold sb_dec
    rw [e]
    simp
  · have z : ¬ -nI 9 ≤ -nI v := z
    have z2 : ¬ v ≤ 9 := fun y => z ((sb_nle (by decide) (by omega)).mpr y)
    have e : sb_dg v = 2 := by rw [sb_dg, if_neg (by omega), if_pos hv]
    rw [e] at hq hp ⊢
    rw [sb_m1 (p := n + 2 - 1) (by omega), nI_clamp (n := n + 2 - 1 - 1) (by omega)]
    refine ⟨vv, vp_in_nI (by omega) (by omega), br_t rfl (hp _ ⟨rfl, hq, g3, sb_latPut g4 (fun j hj => (pk_un (by omega)).trans (pk_un (by omega))) (fun i hi => ?_), sb_fitU (sb_fitU g5 (sb_fitB _)) (sb_fitB _)⟩)⟩
    obtain rfl | rfl : i = 0 ∨ i = 1 := by omega
    · refine ⟨by unfold sb_dec; omega, ?_⟩
      show upd (upd x'.2.1.2 (n + 2 - 1) (sb_b (48 + v % 10))) (n + 2 - 1 - 1) (sb_b (48 + v / 10)) (n + 0) = sb_b (sb_dec v 0)
      rw [show n + 2 - 1 - 1 = n + 0 by omega, pk_us]
      unfold sb_dec
      rw [e, show 48 + v / 10 ^ (2 - 1 - 0) % 10 = 48 + v / 10 by simp; omega]
    · refine ⟨by unfold sb_dec; omega, ?_⟩
      show upd (upd x'.2.1.2 (n + 2 - 1) (sb_b (48 + v % 10))) (n + 2 - 1 - 1) (sb_b (48 + v / 10)) (n + 1) = sb_b (sb_dec v 1)
      rw [pk_un (by omega), show n + 2 - 1 = n + 1 by omega, pk_us]
      unfold sb_dec
      rw [e]
      simp
/-- append(String) of a constant -/
theorem s_str {post : SS → Prop} {x : SS} {t s : Nat → Nat} {n w : Nat} {kf : Nat → Int32} (h : txt x t n) (hn : n + w ≤ 34) (hs : ∀ i, i < w → s i < 256 ∧ kf i = sb_b (s i)) (hk : ∀ i, i < w → fits .byte (.int (kf i)) = true) (hp : ∀ x', txt x' (sb_cat t n s) (n + w) → post x') : wpJ4_append_15ec4 post w kf x := by
  unfold wpJ4_append_15ec4 wpJ5_append_cf1ce wpJ0_length_8abf5 wpJ0_coder_7d493
  refine ⟨fun z => absurd z (by decide), fun _ => ?_⟩
  dsimp only
  rw [sb_shr0, h.1, show nI n + Int32.ofNat w = nI (n + w) from nI_add n w]
  refine s_ensure h hn (fun x' h' hq => ?_)
  obtain ⟨g1, g2, g3, g4, g5⟩ := h'
  unfold wpJ5_putStringAt_47b60 wpJ5_inflateIfNeededFor_a7421 wpJ0_getBytes_840e7 wpJ0_coder_7d493
  refine ⟨fun z => absurd z (by decide), fun _ => ⟨fun z => absurd z (by decide), fun _ => ⟨fun _ => ⟨fun z => absurd z (by decide), fun _ => ⟨fun _ => ?_, fun z => absurd rfl z⟩⟩, fun z => absurd rfl z⟩⟩⟩
  have ew : (Int32.ofNat w).toNatClampNeg = w := nI_clamp (n := w) (by omega)
  rw [sb_shl0, g1, ew, nI_clamp (n := n) (by omega), sb_cl0]
  refine ⟨nI_pos (by omega), nI_pos (n := w) (by omega), by omega, by omega, fun i hi => ?_, hp _ ⟨?_, hq, g3, sb_latPut g4 (fun j hj => pk_cpy_out (by omega)) (fun i hi => ?_), ?_⟩⟩
  · rw [Nat.zero_add]
    exact hk i hi
  · exact nI_add n w
  · refine ⟨(hs i hi).1, ?_⟩
    show va_cpy kf x'.2.1.2 0 n w (n + i) = sb_b (s i)
    rw [pk_cpy_in (by omega) (by omega), show 0 + (n + i - n) = i by omega]
    exact (hs i hi).2
  · intro j
    show fits .byte (.int (va_cpy kf x'.2.1.2 0 n w j)) = true
    by_cases c : n ≤ j ∧ j < n + w
    · rw [pk_cpy_in (by omega) (by omega)]
      exact hk _ (by omega)
    · rw [pk_cpy_out (by omega)]
      exact g5 j

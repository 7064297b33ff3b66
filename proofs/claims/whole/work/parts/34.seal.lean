/-! A TEXT'S LENGTH AND SEAL, read off a StringBuilder; the text of a duty. -/
theorem s_charAt {post : Int32 → Prop} {x : SS} {t : Nat → Nat} {n i : Nat} (h : txt x t n) (hi : i < n) (hp : post (nI (t i))) : wpJ4_charAt_5068e post x (nI i) := by
  obtain ⟨g1, g2, g3, g4, g5⟩ := h
  obtain ⟨h1, h2⟩ := g4 i hi
  obtain ⟨b1, b2, -⟩ := sb_byte _ h1
  have hc := (pk_charN (q := t i) (by omega)).1
  unfold wpJ4_charAt_5068e wpJ5_charAt_5068e wpJ0_checkIndex_df160
  rw [sb_shr0, g1, nI_clamp (n := i) (by omega), h2, b1, b2]
  have e : (if Int32.ofNat x.2.1.1 < nI n then Int32.ofNat x.2.1.1 else nI n) = nI n := if_neg (nI_nlt (a := x.2.1.1) g2 (by omega))
  rw [e]
  exact ⟨nI_pos (by omega), (nI_ltI (by omega) (by omega)).mpr hi, fun _ => ⟨vp_in_nI (by omega) (by omega), hc, hc, hp⟩, fun z => absurd rfl z⟩
/-- the seal of the first j letters of t -/
def gSeal (t : Nat → Nat) : Nat → Int32
  | 0 => 11
  | j + 1 => gSeal t j * 31 + nI (t j)
theorem s_sealL {post : Int32 → Prop} {x : SS} {t : Nat → Nat} {n : Nat} (h : txt x t n) (hn : n ≤ 34) (hp : post (gSeal t n)) : ∀ (fu j : Nat), j + fu = n → wpX1_sealFor_b5 post x (fu + 1) (gSeal t j) (nI j) := by
  intro fu
  induction fu with
  | zero =>
    intro j hj
    have e : j = n := by omega
    subst e
    rw [wpX1_sealFor_b5]
    unfold wpJ4_length_8abf5 wpJ5_length_8abf5
    rw [h.1]
    exact br_t ((nI_leI (by omega) (by omega)).mpr (Nat.le_refl _)) hp
  | succ fu ih =>
    intro j hj
    rw [wpX1_sealFor_b5]
    unfold wpJ4_length_8abf5 wpJ5_length_8abf5
    rw [h.1]
    refine br_f (fun z => by have := (nI_leI (by omega) (by omega)).mp z; omega) (s_charAt h (by omega) ?_)
    rw [nI_1]
    exact ih (j + 1) (by omega)
theorem s_seal {post : Int32 → Prop} {x : SS} {t : Nat → Nat} {n : Nat} (h : txt x t n) (hn : n ≤ 34) (hp : post (gSeal t n)) : wpX1_sealFor post x := by
  refine ⟨n + 1, ?_⟩
  have r := s_sealL (post := post) h hn hp n 0 (Nat.zero_add n)
  rw [nI_0] at r
  exact r
theorem r_sealL {post : Int32 → MS → SS → Prop} {mo : MS} {p0 : Int32} {x : SS} {t : Nat → Nat} {n : Nat} (h : txt x t n) (hn : n ≤ 34) (hp : post (gSeal t n) mo x) : ∀ (fu j : Nat), j + fu = n → wpX3_seal_b10 post p0 (fu + 1) (gSeal t j) (nI j) mo x := by
  intro fu
  induction fu with
  | zero =>
    intro j hj
    have e : j = n := by omega
    subst e
    rw [wpX3_seal_b10]
    unfold wpJ4_length_8abf5 wpJ5_length_8abf5
    rw [h.1]
    exact br_t ((nI_leI (by omega) (by omega)).mpr (Nat.le_refl _)) hp
  | succ fu ih =>
    intro j hj
    rw [wpX3_seal_b10]
    unfold wpJ4_length_8abf5 wpJ5_length_8abf5
    rw [h.1]
    refine br_f (fun z => by have := (nI_leI (by omega) (by omega)).mp z; omega) (s_charAt h (by omega) ?_)
    rw [nI_1]
    exact ih (j + 1) (by omega)
abbrev TX : Type := (Nat → Nat) × Nat
def apI (y : TX) (v : Nat) : TX := (sb_cat y.1 y.2 (sb_dec v), y.2 + sb_dg v)
def apS (y : TX) (l : List Int32) : TX := (sb_cat y.1 y.2 (fun i => (l.getD i 0).toNatClampNeg), y.2 + l.length)
def apC (y : TX) (c : Nat) : TX := (sb_cat y.1 y.2 (fun _ => c), y.2 + 1)
/-- the text of a duty: its debtor, amount, creditor, and what it hangs on -/
def gTx3 (de am cr : Nat) : TX := apI (apS (apI (apS (apI (fun _ => 0, 0) de) sx_X1_57) am) sx_X1_62) cr
def gTx (de am cr : Nat) : Option Nat → TX
  | none => apC (gTx3 de am cr) 46
  | some k => apC (apI (apS (gTx3 de am cr) sx_X1_64) k) 46
theorem dg_2 {v : Nat} (h : v < 100) : sb_dg v ≤ 2 := by unfold sb_dg; split <;> (try split) <;> omega
theorem s_intT {post : SS → Prop} {x : SS} {y : TX} {v : Nat} (h : txt x y.1 y.2) (hv : v < 100) (hn : (apI y v).2 ≤ 34) (hp : ∀ x', txt x' (apI y v).1 (apI y v).2 → post x') : wpJ4_append_bf812 post x (nI v) := s_int h hv hn hp
theorem s_charT {post : SS → Prop} {x : SS} {y : TX} {c : Nat} (h : txt x y.1 y.2) (hc : c < 256) (hn : (apC y c).2 ≤ 34) (hp : ∀ x', txt x' (apC y c).1 (apC y c).2 → post x') : wpJ4_append_cf468 post x (nI c) := s_char h hn hc hp
/-- letters as the law's constants have them -/
def okL (l : List Int32) : Prop := ∀ i, i < l.length → (l.getD i 0).toNatClampNeg < 256 ∧ l.getD i 0 = sb_b (l.getD i 0).toNatClampNeg ∧ fits .byte (.int (l.getD i 0)) = true
theorem okL_57 : okL sx_X1_57 := by unfold okL; decide +kernel
theorem okL_62 : okL sx_X1_62 := by unfold okL; decide +kernel
theorem okL_64 : okL sx_X1_64 := by unfold okL; decide +kernel
theorem s_strT {post : SS → Prop} {x : SS} {y : TX} {l : List Int32} (hl : okL l) (h : txt x y.1 y.2) (hn : (apS y l).2 ≤ 34) (hp : ∀ x', txt x' (apS y l).1 (apS y l).2 → post x') : wpJ4_append_15ec4 post l.length (fun j : Nat => l.getD j 0) x :=
  s_str h hn (fun i hi => ⟨(hl i hi).1, (hl i hi).2.1⟩) (fun i hi => (hl i hi).2.2) hp

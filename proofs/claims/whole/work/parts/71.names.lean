/-! names of filters, in the class -/
theorem sw_len : ∀ a, a < 19 → (sWl.getD a []).length ≤ 200 ∧ (Int32.ofNat (sWl.getD a []).length) >>> ((0 : Int32) &&& 31) = Int32.ofNat (sWl.getD a []).length := by decide +kernel
theorem str_len {a : Nat} (ha : a < 19) (h : hp) : fJ0_length_8abf5 (a + 21) h = some (iN (sWl.getD a []).length, h) := by
  have e := (sw_len a ha).2
  unfold fJ0_length_8abf5 fJ0_coder_7d493 gsV lnB ckS gsK
  rw [if_pos (by omega), Option.bind_some, show a + 21 + 19 - 40 = a by omega, if_pos (by omega), Option.bind_some, if_pos (by omega), Option.bind_some, if_pos (by omega), Option.bind_some]
  show some (Int32.ofNat (sWl.getD a []).length >>> ((0 : Int32) &&& 31), h) = _
  rw [e]; rfl
theorem sw_byte : ∀ a, a < 19 → ∀ i, i < (sWl.getD a []).length → ((((sWl.getD a []).getD i 0 &&& 255)).toUInt32 % 65536).toInt32 = (sWl.getD a []).getD i 0 ∧ 0 ≤ ((sWl.getD a []).getD i 0).toInt ∧ ((sWl.getD a []).getD i 0).toInt < 128 := by decide +kernel
theorem str_at {a i : Nat} (ha : a < 19) (hi : i < (sWl.getD a []).length) (h : hp) : fJ0_charAt_5068e (a + 21) (iN i) h = some ((sWl.getD a []).getD i 0, h) := by
  have hl := (sw_len a ha).1
  obtain ⟨b1, b2, b3⟩ := sw_byte a ha i hi
  have n1 : ¬ (iN i < 0) := by rw [i_nlt]; exact i0_le i (by omega)
  have n2 : iN i < Int32.ofNat (sWl.getD a []).length := by show iN i < iN _; rw [i_lt (by omega) (by omega)]; exact hi
  have ck : bck ((sWl.getD a []).getD i 0) = some () := by unfold bck; rw [if_pos ⟨b2, by omega⟩]
  have bl : blB (a + 40) (iN i) = some ((sWl.getD a []).getD i 0) := by
    unfold blB
    rw [show a + 40 - 40 = a by omega, i_toInt (by omega), i_clamp (by omega), if_pos ⟨by omega, by omega, by omega⟩]
  have ln : lnB (a + 40) = some (Int32.ofNat (sWl.getD a []).length) := by unfold lnB; rw [show a + 40 - 40 = a by omega, if_pos (by omega)]
  have gv : gsV (a + 21) = some (a + 40) := by unfold gsV; rw [if_pos (by omega)]
  have cs' : ckS (a + 21) = some () := by unfold ckS; rw [if_pos (by omega)]
  have gk : gsK (a + 21) = some 0 := by unfold gsK; rw [if_pos (by omega)]
  have ci : fJ0_checkIndex_df160 (iN i) (Int32.ofNat (sWl.getD a []).length) h = some h := by
    unfold fJ0_checkIndex_df160 fJ3_checkIndex_8e157
    rw [jn_e, if_neg n1, if_pos n2]; rfl
  have c1 : fJ1_charAt_3b067 (a + 40) (iN i) h = some ((sWl.getD a []).getD i 0, h) := by
    unfold fJ1_charAt_3b067
    rw [ln, Option.bind_some, ci, Option.bind_some, bl, Option.bind_some, b1, ck, Option.bind_some]
  unfold fJ0_charAt_5068e fJ0_isLatin1_aae02
  rw [cs', Option.bind_some, gk, Option.bind_some, if_pos rfl, bd2_s, if_neg z10, gv, Option.bind_some, c1, bd2_s, ck, Option.bind_some]
theorem isSm_e (v : Int32) (h : hp) : fX13_isSmall v h = some (if isL v = true then 1 else 0, h) := by
  have k1 : v < 97 ↔ v.toInt < 97 := by rw [Int32.lt_iff_toInt_lt, show (97 : Int32).toInt = 97 by decide]
  have k2 : 122 < v ↔ 122 < v.toInt := by rw [Int32.lt_iff_toInt_lt, show (122 : Int32).toInt = 122 by decide]
  have e : isL v = true ↔ 97 ≤ v.toInt ∧ v.toInt ≤ 122 := by unfold isL; exact decide_eq_true_iff
  unfold fX13_isSmall
  by_cases c1 : v < 97
  · rw [if_pos c1, if_neg (fun q => by rw [e] at q; rw [k1] at c1; omega)]
  rw [if_neg c1]
  by_cases c2 : 122 < v
  · rw [if_pos c2, if_neg (fun q => by rw [e] at q; rw [k2] at c2; omega)]
  rw [if_neg c2, if_pos (by rw [e]; rw [k1] at c1; rw [k2] at c2; omega)]
theorem at_t {h : hp} {o tp bx q : Nat} {L : List Int32} (R : RD h o tp bx L) (hq : q < 2147483648) : fX5_at 128 (iN q) h = some (hereL L q, h) := by
  rw [at_both R.2.2.2.2.2.2.2.1, i_toInt hq, i_clamp hq]
  unfold hereL
  by_cases c : q < L.length
  · rw [if_pos c, if_pos (by omega)]
  · rw [if_neg c, if_neg (by omega)]
theorem cntS {h : hp} {o tp bx p : Nat} {L : List Int32} (R : RD h o tp bx L) (r : RO h o tp L p) : ∀ (d c n : Nat), c + d = 160 → d < n → fX7_countSmall_l4 n o (iN c) (iN c) h = some (iN (c + runL L d (p + c)), h) := by
  have hp' := r.lt R
  intro d
  induction d with
  | zero =>
    intro c n hc hn
    obtain ⟨n, rfl⟩ : ∃ q, n = q + 1 := ⟨n - 1, by omega⟩
    have h5 : c = 160 := by omega
    subst h5
    rw [fX7_countSmall_l4, if_pos (by decide)]; rfl
  | succ d ih =>
    intro c n hc hn
    obtain ⟨n, rfl⟩ : ∃ q, n = q + 1 := ⟨n - 1, by omega⟩
    have e : ¬ (160 ≤ iN c) := by rw [i_lit_le (by decide) (by omega)]; show ¬ (160 ≤ c); omega
    rw [fX7_countSmall_l4, if_neg e, gOR R, Option.bind_some, R.2.2.1, gO R, Option.bind_some, ckN R.2.2.2.2.2.2.2.1.1, Option.bind_some, r.1, i_add, at_t R (by omega), bd2_s, isSm_e, bd2_s]
    have e1 : runL L (d + 1) (p + c) = if isL (hereL L (p + c)) = true then runL L d (p + c + 1) + 1 else 0 := rfl
    by_cases q : isL (hereL L (p + c)) = true
    · rw [if_pos q] at e1
      rw [if_pos q, if_neg z10, i_succ, ih (c + 1) n (by omega) (by omega), e1, show p + (c + 1) = p + c + 1 by omega, show c + 1 + runL L d (p + c + 1) = c + (runL L d (p + c + 1) + 1) by omega]
    · rw [if_neg q] at e1
      rw [if_neg q, if_pos rfl, e1, Nat.add_zero]
theorem count_e {h : hp} {o tp bx p : Nat} {L : List Int32} (R : RD h o tp bx L) (r : RO h o tp L p) : fX7_countSmall o h = some (iN (runL L 160 p), h) := by
  have e := cntS R r 160 0 FU rfl (by show 160 < 1000000; omega)
  unfold fX7_countSmall
  rw [show fX7_countSmall_l4 FU o 0 0 h = _ from e, bd2_s, Nat.zero_add, Nat.add_zero]
theorem run_le {L : List Int32} : ∀ (d p : Nat), p ≤ L.length → p + runL L d p ≤ L.length ∧ runL L d p ≤ d := by
  intro d
  induction d with
  | zero => intro p hp'; exact ⟨hp', Nat.le_refl _⟩
  | succ d ih =>
    intro p hp'
    have e1 : runL L (d + 1) p = if isL (hereL L p) = true then runL L d (p + 1) + 1 else 0 := rfl
    by_cases q : isL (hereL L p) = true
    · rw [if_pos q] at e1
      have nz : hereL L p ≠ -1 := fun c => by rw [c] at q; exact absurd q (by decide)
      obtain ⟨l1, _⟩ := here_lt (L := L) (p := p) rfl nz
      have := ih (p + 1) (by omega)
      rw [e1]; omega
    · rw [if_neg q] at e1
      rw [e1]; omega

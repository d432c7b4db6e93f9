/-! the higher bits of an int as a double, and the class's FILTERS whole -/
theorem shn : ∀ j, j < 32 → ((iN j &&& 31).toBitVec.smod 32).toNat = j := by decide
theorem hb_l {x0 : Int32} {h : hp} {a l : Nat} (ha : a < 2 ^ 20) (h1 : 2 ^ l ≤ a) (h2 : a < 2 ^ (l + 1)) : ∀ (d e n : Nat), e + d = l → d < n → fX11_highBitsOf_l20 n x0 (iN a) (iN e) (iN e) h = some (iN l, h) := by
  have hl : l < 20 := (Nat.pow_lt_pow_iff_right (by decide : 1 < 2)).mp (Nat.lt_of_le_of_lt h1 ha)
  have sh : ∀ e, e < 20 → (iN a >>> ((iN e + 1) &&& 31)).toInt = ((a / 2 ^ (e + 1) : Nat) : Int) := fun e he => by
    rw [i_succ, Jvm.Kit.i32_shr _ _ (shn (e + 1) (by omega)), i_toInt (by omega)]
    rw [Int.natCast_ediv, Int.natCast_pow]; rfl
  intro d
  induction d with
  | zero =>
    intro e n he hn
    obtain ⟨n, rfl⟩ : ∃ q, n = q + 1 := ⟨n - 1, by omega⟩
    have hel : e = l := by omega
    subst hel
    have c1 : ¬ ((20 : Int32) ≤ iN e) := by rw [i_lit_le (by decide) (by omega)]; omega
    have c2 : (iN a >>> ((iN e + 1) &&& 31)) ≤ 0 := by
      rw [Int32.le_iff_toInt_le, sh e hl, Nat.div_eq_of_lt h2]; decide
    rw [fX11_highBitsOf_l20, if_neg c1, if_pos c2]
  | succ d ih =>
    intro e n he hn
    obtain ⟨n, rfl⟩ : ∃ q, n = q + 1 := ⟨n - 1, by omega⟩
    have c1 : ¬ ((20 : Int32) ≤ iN e) := by rw [i_lit_le (by decide) (by omega)]; omega
    have c2 : ¬ ((iN a >>> ((iN e + 1) &&& 31)) ≤ 0) := by
      rw [Int32.le_iff_toInt_le, sh e (by omega), show (0 : Int32).toInt = 0 by decide]
      have : 2 ^ (e + 1) ≤ a := Nat.le_trans (Nat.pow_le_pow_right (by decide) (by omega)) h1
      have := (Nat.le_div_iff_mul_le (Nat.two_pow_pos (e + 1))).mpr (by rw [Nat.one_mul]; exact this)
      omega
    rw [fX11_highBitsOf_l20, if_neg c1, if_neg c2, i_succ]
    exact ih (e + 1) n (by omega) (by omega)
theorem hbits_e {x : Int32} (hx : inI x) (h : hp) : fX11_highBitsOf x h = some ((((FP.i2d x).toInt64 >>> ((32 : Int32).toInt64 &&& 63)).toInt32), h) := by
  have ab := abs_e hx
  unfold inI at hx
  obtain ⟨a, ha⟩ : ∃ a, a = x.toInt.natAbs := ⟨_, rfl⟩
  rw [← ha] at ab
  have ha1 : a ≤ 1000000 := by omega
  have e0 : fJ9_abs_0f7a4 x h = some (iN a, h) := by
    unfold fJ9_abs_0f7a4
    by_cases c : 0 ≤ x
    · rw [if_pos c, ← ab.1 c]
    · rw [if_neg c, ← ab.2 c]
  have e1 : fJ9_min_7cf53 (iN a) 1000000 h = some (iN a, h) := by
    rw [show (1000000 : Int32) = iN 1000000 from rfl, cMin a 1000000 (by omega) (by decide), show min a 1000000 = a by omega]
  unfold fX11_highBitsOf
  rw [e0, bd2_s, e1, bd2_s]
  by_cases c0 : a = 0
  · have hx0 : x = 0 := Int32.toInt_inj.mp (by rw [show (0 : Int32).toInt = 0 by decide]; omega)
    subst hx0
    subst c0
    rw [if_neg (by decide)]
    rfl
  · have c1 : (0 : Int32) < iN a := by rw [i_lit_lt (by decide) (by omega)]; omega
    have l1 : 2 ^ a.log2 ≤ a := Nat.log2_self_le c0
    have l2 : a < 2 ^ (a.log2 + 1) := Nat.lt_log2_self
    obtain ⟨l, hl⟩ : ∃ l, l = a.log2 := ⟨_, rfl⟩
    rw [← hl] at l1 l2
    have l3 : l < 20 := (Nat.pow_lt_pow_iff_right (by decide : 1 < 2)).mp (Nat.lt_of_le_of_lt l1 (by omega))
    rw [if_pos c1, show fX11_highBitsOf_l20 FU x (iN a) 0 0 h = _ from hb_l (x0 := x) (h := h) (by omega) l1 l2 l 0 FU (by omega) (by show l < 1000000; omega), bd2_s]
    -- the parts
    obtain ⟨m, hm⟩ : ∃ m, m = a * 2 ^ (20 - l) := ⟨_, rfl⟩
    have m1 : 2 ^ 20 ≤ m := by
      rw [hm]
      calc 2 ^ 20 = 2 ^ l * 2 ^ (20 - l) := by rw [← Nat.pow_add]; congr 1; omega
        _ ≤ a * 2 ^ (20 - l) := Nat.mul_le_mul_right _ l1
    have m2 : m < 2 ^ 21 := by
      rw [hm]
      calc a * 2 ^ (20 - l) < 2 ^ (l + 1) * 2 ^ (20 - l) := Nat.mul_lt_mul_of_pos_right l2 (Nat.two_pow_pos _)
        _ = 2 ^ 21 := by rw [← Nat.pow_add]; congr 1; omega
    have s1 : iN a <<< ((20 - iN l) &&& 31) = iN m := by
      apply Int32.toInt_inj.mp
      have hi : (((a : Nat) : Int) * 2 ^ (20 - l)) = ((m : Nat) : Int) := by rw [hm, Int.natCast_mul, Int.natCast_pow]; rfl
      rw [show (20 : Int32) - iN l = iN (20 - l) from i_sub (a := 20) (by omega), Jvm.Kit.i32_shl (k := 20 - l) _ _ (shn (20 - l) (by omega)) (by rw [i_toInt (by omega), hi]; omega) (by rw [i_toInt (by omega), hi]; omega), i_toInt (by omega), i_toInt (by omega), hi]
    have s2 : (iN l + 1023) <<< ((20 : Int32) &&& 31) = iN ((l + 1023) * 2 ^ 20) := by
      apply Int32.toInt_inj.mp
      rw [show iN l + (1023 : Int32) = iN (l + 1023) from i_add l 1023, Jvm.Kit.i32_shl (k := 20) _ _ (by decide) (by rw [i_toInt (by omega)]; omega) (by rw [i_toInt (by omega)]; omega), i_toInt (by omega), i_toInt (by omega)]
      omega
    obtain ⟨H, hH⟩ : ∃ H, H = m - 1048576 + (l + 1023) * 2 ^ 20 := ⟨_, rfl⟩
    have hHl : H < 2 ^ 31 := by omega
    have s3 : iN m - 1048576 + iN ((l + 1023) * 2 ^ 20) = iN H := by
      rw [show (1048576 : Int32) = iN 1048576 from rfl, i_sub (by omega), i_add, hH]
    rw [s1, s2, s3]
    -- the double
    have hC : 2 ^ 52 ≤ a * 2 ^ (52 - l) ∧ a * 2 ^ (52 - l) < 2 ^ 53 := by
      have e : a * 2 ^ (52 - l) = m * 2 ^ 32 := by rw [hm, Nat.mul_assoc, ← Nat.pow_add]; congr 2; omega
      rw [e]; omega
    have hnd : ndf (a * 2 ^ (52 - l)) (-((52 - l : Nat) : Int)) := ⟨hC.1, hC.2, by omega, by omega⟩
    have hv : Jvm.FP.Core.val64 (FP.i2d x) = .fin (decide (x.toInt < 0)) (a * 2 ^ (52 - l)) (-((52 - l : Nat) : Int)) := by
      rw [Jvm.FP.Core.val64_i2d]
      show Jvm.FP.Core.roundRatio Jvm.FP.Core.b64 (decide (x.toInt < 0)) x.toInt.natAbs 1 0 = _
      rw [← ha]
      refine Jvm.FP.Core.roundRatio_exact Jvm.FP.Core.good_b64 (by decide) (nd_fits hnd) ?_
      rw [show (0 - -((52 - l : Nat) : Int)).toNat = 52 - l by omega, show (-((52 - l : Nat) : Int) - 0).toNat = 0 by omega, Nat.pow_zero, Nat.mul_one, Nat.mul_one]
    have hN : (FP.i2d x).toNat = (if x.toInt < 0 then 9223372036854775808 else 0) + H * 4294967296 := by
      have e : FP.i2d x = Jvm.FP.Core.of64 (.fin (decide (x.toInt < 0)) (a * 2 ^ (52 - l)) (-((52 - l : Nat) : Int))) := by
        rw [← hv, Jvm.FP.Core.of64_val64 (nn_fin hv)]
      rw [e, Jvm.FP.Core.toNat_of64 (nd_fits hnd)]
      unfold Jvm.FP.Core.encode Jvm.FP.Core.assemble
      simp only [Jvm.FP.Core.tails_b64, Jvm.FP.Core.qmin_b64]
      rw [if_neg (by omega), show Jvm.FP.Core.b64.exps = 2048 by decide, show (-((52 - l : Nat) : Int) - -1074).toNat + 1 = 1023 + l by omega]
      have e2 : a * 2 ^ (52 - l) = m * 2 ^ 32 := by rw [hm, Nat.mul_assoc, ← Nat.pow_add]; congr 2; omega
      rw [e2]
      by_cases c : x.toInt < 0
      · rw [decide_eq_true c, if_pos c]; show (1 * 2048 + _) * _ + _ = _; omega
      · rw [decide_eq_false c, if_neg c]; show (0 * 2048 + _) * _ + _ = _; omega
    have hI : ((FP.i2d x).toInt64 >>> ((32 : Int32).toInt64 &&& 63)).toInt = (if x.toInt < 0 then (H : Int) - 2147483648 else (H : Int)) := by
      rw [Jvm.Kit.i64_shr (k := 32) _ _ (by decide)]
      have e : (FP.i2d x).toInt64.toInt = (((FP.i2d x).toNat : Int)).bmod (2 ^ 64) := by
        show (FP.i2d x).toBitVec.toInt = _
        rw [BitVec.toInt_eq_toNat_bmod]; rfl
      rw [e, hN, show ((2 : Int) ^ 32) = 4294967296 by decide, show ((2 : Nat) ^ 64) = 18446744073709551616 by decide]
      have hH0 : (0 : Int) ≤ H := Int.natCast_nonneg H
      have hH1 : (H : Int) < 2147483648 := by omega
      by_cases c : x.toInt < 0
      · rw [if_pos c, if_pos c]
        have e1 : ((9223372036854775808 + H * 4294967296 : Nat) : Int).bmod 18446744073709551616 = (H : Int) * 4294967296 - 9223372036854775808 := by
          rw [Int.natCast_add, Int.natCast_mul]
          generalize (H : Int) = z at hH0 hH1
          rw [Int.bmod_def, Int.emod_eq_of_lt (by omega) (by omega)]
          rw [if_neg (by omega)]
          omega
        rw [e1, show (H : Int) * 4294967296 - 9223372036854775808 = ((H : Int) - 2147483648) * 4294967296 by rw [Int.sub_mul]; rfl]
        exact Int.mul_ediv_cancel _ (by decide)
      · rw [if_neg c, if_neg c]
        have e1 : ((0 + H * 4294967296 : Nat) : Int).bmod 18446744073709551616 = (H : Int) * 4294967296 := by
          rw [Int.natCast_add, Int.natCast_mul]
          generalize (H : Int) = z at hH0 hH1
          rw [Int.bmod_def, Int.emod_eq_of_lt (by omega) (by omega)]
          rw [if_pos (by omega)]
          exact Int.zero_add _
        rw [e1]
        exact Int.mul_ediv_cancel _ (by decide)
    by_cases c : 0 ≤ x
    · rw [if_pos c]
      have c' : ¬ x.toInt < 0 := by rw [Int32.le_iff_toInt_le, show (0 : Int32).toInt = 0 by decide] at c; omega
      rw [if_neg c'] at hI
      refine congrArg (fun z => some (z, h)) ?_
      apply Int32.toInt_inj.mp
      rw [i_toInt (by omega), Jvm.Kit.i32_of_i64 (by omega) (by omega), hI]
    · rw [if_neg c]
      have c' : x.toInt < 0 := by rw [Int32.le_iff_toInt_le, show (0 : Int32).toInt = 0 by decide] at c; omega
      rw [if_pos c'] at hI
      refine congrArg (fun z => some (z, h)) ?_
      apply Int32.toInt_inj.mp
      rw [Jvm.Kit.i32_of_i64 (by omega) (by omega), hI]
      have e : (iN H ||| -2147483648).toBitVec.toNat = 2 ^ 31 + H := by
        show (BitVec.ofNat 32 H ||| (-2147483648 : Int32).toBitVec).toNat = _
        rw [BitVec.toNat_or, BitVec.toNat_ofNat, show ((-2147483648 : Int32).toBitVec).toNat = 2 ^ 31 by decide, Nat.mod_eq_of_lt (show H < 2 ^ 32 by omega), Nat.or_comm]
        have := Nat.two_pow_add_eq_or_of_lt (i := 31) (b := H) (by omega) 1
        rw [Nat.mul_one] at this
        exact this.symm
      show (iN H ||| -2147483648).toBitVec.toInt = _
      rw [BitVec.toInt_eq_toNat_bmod, e, Int.bmod_def, Int.emod_eq_of_lt (by omega) (by omega), if_neg (by omega)]
      omega
/-- a FILTER of the class on its value -/
theorem cFlt {h : hp} {a b q m : Nat} {V : vT} (H : CV h a b V) (g : gV V) (hq : q < 17) (hm : m < 2147483648) : (V.1 = 1 → ∃ h', fX11_filterInt a (fa q) (iN m) h = some (iN (fltS q (iN m) V).1, h') ∧ CV h' a b (fltS q (iN m) V).2 ∧ FI [a, b] h h') ∧ (V.1 = 2 → ∃ h', fX11_filterReal a (fa q) (iN m) h = some (iN (fltS q (iN m) V).1, h') ∧ CV h' a b (fltS q (iN m) V).2 ∧ FI [a, b] h h') ∧ (V.1 = 3 → ∃ h', fX11_filterText a (fa q) (iN m) h = some (iN (fltS q (iN m) V).1, h') ∧ CV h' a b (fltS q (iN m) V).2 ∧ FI [a, b] h h') ∧ (V.1 = 4 → ∃ h', fX11_filterList a (fa q) (iN m) h = some (iN (fltS q (iN m) V).1, h') ∧ CV h' a b (fltS q (iN m) V).2 ∧ FI [a, b] h h') := by
  obtain ⟨s, x, r, n, f⟩ := V
  refine ⟨fun e => ?_, fun e => ?_, fun e => ?_, fun e => ?_⟩
  · obtain rfl : s = 1 := e
    exact cFI H (g.2.1 rfl) (hbits_e (g.2.1 rfl)) hq
  · obtain rfl : s = 2 := e
    have gr := g.2.2.1 rfl
    exact cFR H gr (bitsOf_e (gF_fin gr) gr.2) hq
  · obtain rfl : s = 3 := e
    exact cFT H hm hq
  · obtain rfl : s = 4 := e
    exact cFL H hm hq
/-- the class's measure -/
theorem cMeas {h : hp} {a b : Nat} {V : vT} (H : CV h a b V) (g : gV V) : fX11_measure a h = some (if V.1 = 1 then V.2.1 else if V.1 = 2 then V.2.2.1.toInt32 else if V.1 = 0 then 0 else iN V.2.2.2.1, h) := by
  obtain ⟨s, x, r, n, f⟩ := V
  obtain ⟨t1, t2, r1, ne⟩ := id H.1
  have hk : hI h a 0 = iN s := H.2.1
  have hs4 : s ≤ 4 := H.2.2.1
  have hsc : s = 0 ∨ s = 1 ∨ s = 2 ∨ s = 3 ∨ s = 4 := by omega
  unfold fX11_measure
  rcases hsc with rfl | rfl | rfl | rfl | rfl
  · simp only [gfI, t1, hk, if_true, Option.bind_some, show iN 0 = 0 from rfl, zz01, zz02, zz03, zz04, zz10, zz12, zz13, zz14, zz20, zz21, zz23, zz24, zz30, zz31, zz32, zz34, zz40, zz41, zz42, zz43, if_false]
    rfl
  · have hx : hI h a 1 = x := H.2.2.2.1 rfl
    simp only [gfI, t1, hk, if_true, Option.bind_some, show iN 1 = 1 from rfl, zz01, zz02, zz03, zz04, zz10, zz12, zz13, zz14, zz20, zz21, zz23, zz24, zz30, zz31, zz32, zz34, zz40, zz41, zz42, zz43, if_false, hx]
  · have hx : hF h a 2 = r := H.2.2.2.2.1 rfl
    have gr := g.2.2.1 rfl
    simp only [gfI, gfF, t1, hk, if_true, Option.bind_some, show iN 2 = 2 from rfl, zz01, zz02, zz03, zz04, zz10, zz12, zz13, zz14, zz20, zz21, zz23, zz24, zz30, zz31, zz32, zz34, zz40, zz41, zz42, zz43, if_false, hx, show fX11_bitsOf r h = _ from bitsOf_e (gF_fin gr) gr.2 h, bd2]
    rfl
  · have hs : hI h a 3 = iN n := (H.2.2.2.2.2 (by show 3 ≤ 3; decide)).1
    simp only [gfI, t1, hk, if_true, Option.bind_some, show iN 3 = 3 from rfl, zz01, zz02, zz03, zz04, zz10, zz12, zz13, zz14, zz20, zz21, zz23, zz24, zz30, zz31, zz32, zz34, zz40, zz41, zz42, zz43, if_false, hs]
    rfl
  · have hs : hI h a 3 = iN n := (H.2.2.2.2.2 (by show 3 ≤ 4; decide)).1
    simp only [gfI, t1, hk, if_true, Option.bind_some, show iN 4 = 4 from rfl, zz01, zz02, zz03, zz04, zz10, zz12, zz13, zz14, zz20, zz21, zz23, zz24, zz30, zz31, zz32, zz34, zz40, zz41, zz42, zz43, if_false, hs]
    rfl

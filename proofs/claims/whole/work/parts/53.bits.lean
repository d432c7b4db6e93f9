/-! the bits of floats, worked out as the class does it */ -/
/-- a double: C times 2 to the Q -/
def nd (C : Nat) (Q : Int) : UInt64 := Jvm.FP.Core.of64 (.fin false C Q)
def ndf (C : Nat) (Q : Int) : Prop := 2 ^ 52 ≤ C ∧ C < 2 ^ 53 ∧ -1074 ≤ Q ∧ Q ≤ 971
theorem nd_fits {s : Bool} {C : Nat} {Q : Int} (h : ndf C Q) : Jvm.FP.Core.fits Jvm.FP.Core.b64 (.fin s C Q) := by
  refine ⟨h.2.1, ?_, ?_, .inr ?_⟩
  · rw [Jvm.FP.Core.qmin_b64]; exact h.2.2.1
  · rw [show Jvm.FP.Core.b64.qmax = 971 by decide]; exact h.2.2.2
  · rw [Jvm.FP.Core.tails_b64]; exact h.1
theorem val_nd {C : Nat} {Q : Int} (h : ndf C Q) : Jvm.FP.Core.val64 (nd C Q) = .fin false C Q := Jvm.FP.Core.val64_of64 (nd_fits h)
theorem nd_of {a : UInt64} {C : Nat} {Q : Int} (h : Jvm.FP.Core.val64 a = .fin false C Q) : a = nd C Q := by
  unfold nd
  rw [← h, Jvm.FP.Core.of64_val64]
  rw [h]; exact Jvm.FP.Core.Datum.noConfusion
theorem nd_mul {C : Nat} {Q : Int} {K : UInt64} {p : Int} (hk : Jvm.FP.Core.val64 K = .fin false (2 ^ 52) (p - 52)) (h : ndf C Q) (h' : ndf C (Q + p)) : FP.dmul (nd C Q) K = nd C (Q + p) := by
  apply nd_of
  show Jvm.FP.Core.val64 (Jvm.FP.Core.dmul (nd C Q) K) = _
  rw [Jvm.FP.Core.val64_dmul, val_nd h, hk]
  show Jvm.FP.Core.roundRatio Jvm.FP.Core.b64 false (C * 2 ^ 52) 1 (Q + (p - 52)) = _
  refine Jvm.FP.Core.roundRatio_exact Jvm.FP.Core.good_b64 (by decide) (nd_fits h') ?_
  rw [show (Q + (p - 52) - (Q + p)).toNat = 0 by omega, show (Q + p - (Q + (p - 52))).toNat = 52 by omega, Nat.pow_zero, Nat.mul_one, Nat.mul_one]
theorem kh : Jvm.FP.Core.val64 4602678819172646912 = .fin false (2 ^ 52) (-1 - 52) := by decide +kernel
theorem k2 : Jvm.FP.Core.val64 4611686018427387904 = .fin false (2 ^ 52) (1 - 52) := by decide +kernel
theorem k1' : Jvm.FP.Core.val64 FP.dconst1 = .fin false (2 ^ 52) (0 - 52) := by decide +kernel
theorem k23 : Jvm.FP.Core.val64 4710765210229538816 = .fin false (2 ^ 52) (23 - 52) := by decide +kernel
theorem nn_fin {a : UInt64} {s : Bool} {c : Nat} {q : Int} (h : Jvm.FP.Core.val64 a = .fin s c q) : Jvm.FP.Core.val64 a ≠ .nan := by
  rw [h]; exact Jvm.FP.Core.Datum.noConfusion
theorem nd_nn {C : Nat} {Q : Int} (h : ndf C Q) : dnn (nd C Q) = some (nd C Q) := dnn_ok ((Jvm.FP.Core.notNaN_iff _).mpr (nn_fin (val_nd h)))
theorem dl_lt {a b : UInt64} (ha : Jvm.FP.Core.val64 a ≠ .nan) (hb : Jvm.FP.Core.val64 b ≠ .nan) : (Op.cmpValue (FP.dcmp a b) .l) < 0 ↔ Jvm.FP.Core.zval Jvm.FP.Core.b64 (Jvm.FP.Core.val64 a) < Jvm.FP.Core.zval Jvm.FP.Core.b64 (Jvm.FP.Core.val64 b) := by
  rw [show FP.dcmp a b = _ from Jvm.FP.Core.dcmp_zval ha hb]
  simp only [compare, compareOfLessAndEq]
  by_cases h1 : Jvm.FP.Core.zval Jvm.FP.Core.b64 (Jvm.FP.Core.val64 a) < Jvm.FP.Core.zval Jvm.FP.Core.b64 (Jvm.FP.Core.val64 b)
  · rw [if_pos h1]; exact ⟨fun _ => h1, fun _ => by decide⟩
  · rw [if_neg h1]
    split
    · exact ⟨fun h => absurd h (by decide), fun h => absurd h h1⟩
    · exact ⟨fun h => absurd h (by decide), fun h => absurd h h1⟩
theorem dg_ge {a b : UInt64} (ha : Jvm.FP.Core.val64 a ≠ .nan) (hb : Jvm.FP.Core.val64 b ≠ .nan) : 0 ≤ (Op.cmpValue (FP.dcmp a b) .g) ↔ ¬ Jvm.FP.Core.zval Jvm.FP.Core.b64 (Jvm.FP.Core.val64 a) < Jvm.FP.Core.zval Jvm.FP.Core.b64 (Jvm.FP.Core.val64 b) := by
  rw [show FP.dcmp a b = _ from Jvm.FP.Core.dcmp_zval ha hb]
  simp only [compare, compareOfLessAndEq]
  by_cases h1 : Jvm.FP.Core.zval Jvm.FP.Core.b64 (Jvm.FP.Core.val64 a) < Jvm.FP.Core.zval Jvm.FP.Core.b64 (Jvm.FP.Core.val64 b)
  · rw [if_pos h1]; exact ⟨fun h => absurd h (by decide), fun h => absurd h1 h⟩
  · rw [if_neg h1]
    split
    · exact ⟨fun _ => h1, fun _ => by decide⟩
    · exact ⟨fun _ => h1, fun _ => by decide⟩
/-- a double against 2 to the p -/
theorem zv_cmp {C : Nat} {Q p : Int} {K : UInt64} (hk : Jvm.FP.Core.val64 K = .fin false (2 ^ 52) (p - 52)) (hp : -1000 ≤ p) (h : ndf C Q) : Jvm.FP.Core.zval Jvm.FP.Core.b64 (Jvm.FP.Core.val64 (nd C Q)) < Jvm.FP.Core.zval Jvm.FP.Core.b64 (Jvm.FP.Core.val64 K) ↔ Q + 52 < p := by
  rw [val_nd h, hk]
  show ((C * 2 ^ (Q - Jvm.FP.Core.b64.qmin).toNat : Nat) : Int) < ((2 ^ 52 * 2 ^ (p - 52 - Jvm.FP.Core.b64.qmin).toNat : Nat) : Int) ↔ _
  rw [Jvm.FP.Core.qmin_b64]
  obtain ⟨h1, h2, h3, h4⟩ := h
  constructor
  · intro hl
    by_cases c : Q + 52 < p
    · exact c
    · have e : (p - 52 - -1074).toNat ≤ (Q - -1074).toNat := by omega
      have := Nat.mul_le_mul h1 (Nat.pow_le_pow_right (show 0 < 2 by decide) e)
      omega
  · intro hl
    have e : (Q - -1074).toNat + 1 ≤ (p - 52 - -1074).toNat := by omega
    have h5 : C * 2 ^ (Q - -1074).toNat < 2 ^ 53 * 2 ^ (Q - -1074).toNat := Nat.mul_lt_mul_of_pos_right h2 (Nat.two_pow_pos _)
    have h6 : 2 ^ 53 * 2 ^ (Q - -1074).toNat = 2 ^ 52 * 2 ^ ((Q - -1074).toNat + 1) := by rw [Nat.pow_succ 2 52, Nat.pow_succ 2 (Q - -1074).toNat, Nat.mul_assoc, Nat.mul_comm 2]
    have h7 := Nat.mul_le_mul_left (2 ^ 52) (Nat.pow_le_pow_right (show 0 < 2 by decide) e)
    omega
theorem bl1 {r : UInt32} {h : hp} {C : Nat} (hC : 2 ^ 52 ≤ C ∧ C < 2 ^ 53) : ∀ (d k n : Nat) (e : Int32), k + d ≤ 128 → d < n → fX11_bitsOf_l28 n r (nd C (-52 + d)) e (iN k) h = some (nd C (-52), e + iN d, h) := by
  intro d
  induction d with
  | zero =>
    intro k n e hk hn
    obtain ⟨n, rfl⟩ : ∃ q, n = q + 1 := ⟨n - 1, by omega⟩
    have f0 : ndf C (-52) := ⟨hC.1, hC.2, by decide, by decide⟩
    have c2 : (Op.cmpValue (FP.dcmp (nd C (-52)) 4611686018427387904) .l) < 0 := by
      rw [dl_lt (nn_fin (val_nd f0)) (nn_fin k2), zv_cmp k2 (by decide) f0]; decide
    rw [show (-52 + ((0 : Nat) : Int)) = -52 by rfl, show e + iN 0 = e from Int32.add_zero e]
    simp only [fX11_bitsOf_l28, c2, if_true]
    split <;> rfl
  | succ d ih =>
    intro k n e hk hn
    obtain ⟨n, rfl⟩ : ∃ q, n = q + 1 := ⟨n - 1, by omega⟩
    have f0 : ndf C (-52 + ((d + 1 : Nat) : Int)) := ⟨hC.1, hC.2, by omega, by omega⟩
    have f1 : ndf C (-52 + ((d + 1 : Nat) : Int) + -1) := ⟨hC.1, hC.2, by omega, by omega⟩
    have c1 : ¬ ((128 : Int32) ≤ iN k) := by rw [i_lit_le (by decide) (by omega)]; omega
    have c2 : ¬ ((Op.cmpValue (FP.dcmp (nd C (-52 + ((d + 1 : Nat) : Int))) 4611686018427387904) .l) < 0) := by
      rw [dl_lt (nn_fin (val_nd f0)) (nn_fin k2), zv_cmp k2 (by decide) f0]; omega
    simp only [fX11_bitsOf_l28, c1, c2, if_false, nd_mul kh f0 f1, nd_nn f1, Option.bind_some, i_succ]
    rw [show (-52 + ((d + 1 : Nat) : Int) + -1) = -52 + (d : Int) by omega, ih (k + 1) n (e + 1) (by omega) (by omega), Int32.add_assoc, show (1 : Int32) = iN 1 from rfl, i_add, Nat.add_comm 1 d]
theorem bl1' {r : UInt32} {h : hp} {C : Nat} {Q : Int} (f : ndf C Q) (hq : Q ≤ -52) (n : Nat) (e : Int32) : fX11_bitsOf_l28 (n + 1) r (nd C Q) e 0 h = some (nd C Q, e, h) := by
  have c1 : ¬ ((128 : Int32) ≤ 0) := by decide
  have c2 : (Op.cmpValue (FP.dcmp (nd C Q) 4611686018427387904) .l) < 0 := by
    rw [dl_lt (nn_fin (val_nd f)) (nn_fin k2), zv_cmp k2 (by decide) f]; omega
  simp only [fX11_bitsOf_l28, c1, c2, if_true, if_false]
theorem bl2 {r : UInt32} {h : hp} {C : Nat} (hC : 2 ^ 52 ≤ C ∧ C < 2 ^ 53) : ∀ (j k n : Nat) (Q : Int) (e : Int32), -1074 ≤ Q → Q + j ≤ -52 → (Q + j = -52 ∨ k + j = 126) → k + j ≤ 126 → j < n → fX11_bitsOf_l63 n r (nd C Q) e (iN k) h = some (nd C (Q + j), e - iN j, h) := by
  intro j
  induction j with
  | zero =>
    intro k n Q e hq h1 h2 h3 hn
    obtain ⟨n, rfl⟩ : ∃ q, n = q + 1 := ⟨n - 1, by omega⟩
    rw [show (Q + ((0 : Nat) : Int)) = Q by omega, show e - iN 0 = e from Int32.sub_zero e]
    by_cases c : k = 126
    · have c1 : (126 : Int32) ≤ iN k := by rw [i_lit_le (by decide) (by omega)]; omega
      simp only [fX11_bitsOf_l63, c1, if_true]
    · have f0 : ndf C Q := ⟨hC.1, hC.2, by omega, by omega⟩
      have c1 : ¬ ((126 : Int32) ≤ iN k) := by rw [i_lit_le (by decide) (by omega)]; omega
      have c2 : 0 ≤ (Op.cmpValue (FP.dcmp (nd C Q) FP.dconst1) .g) := by
        rw [dg_ge (nn_fin (val_nd f0)) (nn_fin k1'), zv_cmp k1' (by decide) f0]; omega
      simp only [fX11_bitsOf_l63, c1, c2, if_true, if_false]
  | succ j ih =>
    intro k n Q e hq h1 h2 h3 hn
    obtain ⟨n, rfl⟩ : ∃ q, n = q + 1 := ⟨n - 1, by omega⟩
    have f0 : ndf C Q := ⟨hC.1, hC.2, by omega, by omega⟩
    have f1 : ndf C (Q + 1) := ⟨hC.1, hC.2, by omega, by omega⟩
    have c1 : ¬ ((126 : Int32) ≤ iN k) := by rw [i_lit_le (by decide) (by omega)]; omega
    have c2 : ¬ (0 ≤ (Op.cmpValue (FP.dcmp (nd C Q) FP.dconst1) .g)) := by
      rw [dg_ge (nn_fin (val_nd f0)) (nn_fin k1'), zv_cmp k1' (by decide) f0]; omega
    simp only [fX11_bitsOf_l63, c1, c2, if_false, nd_mul k2 f0 f1, nd_nn f1, Option.bind_some, i_succ]
    rw [ih (k + 1) n (Q + 1) (e - 1) (by omega) (by omega) (by omega) (by omega) (by omega), show Q + 1 + (j : Int) = Q + ((j + 1 : Nat) : Int) by omega]
    congr 3
    rw [show iN (j + 1) = 1 + iN j by rw [show (1 : Int32) = iN 1 from rfl, i_add, Nat.add_comm], Int32.sub_eq_add_neg, Int32.sub_eq_add_neg, Int32.sub_eq_add_neg, Int32.neg_add, Int32.sub_eq_add_neg, Int32.add_assoc]
theorem nd_d2i {C k : Nat} (h : ndf C (-(k : Int))) (hs : C / 2 ^ k < 2147483648) : FP.d2i (nd C (-(k : Int))) = iN (C / 2 ^ k) := by
  show Jvm.FP.Core.toI (Jvm.FP.Core.val64 (nd C (-(k : Int)))) = _
  rw [val_nd h]
  show Int32.ofInt (max (-2 ^ 31) (min (2 ^ 31 - 1) (if false = true then -((C * 2 ^ (-(k : Int)).toNat / 2 ^ (- -(k : Int)).toNat : Nat) : Int) else ((C * 2 ^ (-(k : Int)).toNat / 2 ^ (- -(k : Int)).toNat : Nat) : Int)))) = _
  rw [show (-(k : Int)).toNat = 0 by omega, show (- -(k : Int)).toNat = k by omega, Nat.pow_zero, Nat.mul_one]
  simp only [Bool.false_eq_true, if_false]
  generalize C / 2 ^ k = z at hs ⊢
  rw [show (2 : Int) ^ 31 = 2147483648 by decide, Int.min_eq_right (by omega), Int.max_eq_right (by omega)]
  rfl
theorem dneg_e {a : UInt64} (h : 2 ^ 63 ≤ a.toNat) : (FP.dneg a).toNat = a.toNat - 2 ^ 63 := by
  unfold FP.dneg
  have hb := a.toNat_lt
  have e1 : (a ^^^ 9223372036854775808).toNat / 2 ^ 63 = 0 := by
    rw [UInt64.toNat_xor, Nat.xor_div_two_pow, show a.toNat / 2 ^ 63 = 1 by omega, show (9223372036854775808 : UInt64).toNat / 2 ^ 63 = 1 by decide]
    rfl
  have e2 : (a ^^^ 9223372036854775808).toNat % 2 ^ 63 = a.toNat % 2 ^ 63 := by
    rw [UInt64.toNat_xor, Nat.xor_mod_two_pow, show (9223372036854775808 : UInt64).toNat % 2 ^ 63 = 0 by decide, Nat.xor_zero]
  omega
/-- a float other than 0, its parts -/
theorem f_parts {r : UInt32} (hf : Jvm.FP.Core.FFin r) (h0 : r.toNat % 2 ^ 31 ≠ 0) : ∃ c : Nat, ∃ q : Int, Jvm.FP.Core.val32 r = .fin (decide (2 ^ 31 ≤ r.toNat)) c q ∧ 0 < c ∧ c < 2 ^ 24 ∧ -149 ≤ q ∧ q ≤ 104 ∧ ((2 ^ 23 ≤ c ∧ r.toNat % 2 ^ 31 = c - 2 ^ 23 + (q + 150).toNat * 2 ^ 23) ∨ (c < 2 ^ 23 ∧ q = -149 ∧ r.toNat % 2 ^ 31 = c)) := by
  have hb := r.toNat_lt
  have hm := (Jvm.FP.Core.fin_bits32 r).mp hf
  have eT : Jvm.FP.Core.fieldT Jvm.FP.Core.b32 r.toNat = r.toNat % 2 ^ 23 := by unfold Jvm.FP.Core.fieldT; rw [Jvm.FP.Core.tails_b32]
  have eE : Jvm.FP.Core.fieldE Jvm.FP.Core.b32 r.toNat = r.toNat / 2 ^ 23 % 256 := by unfold Jvm.FP.Core.fieldE; rw [Jvm.FP.Core.tails_b32]; rfl
  have eS : Jvm.FP.Core.fieldS Jvm.FP.Core.b32 r.toNat = decide (2 ^ 31 ≤ r.toNat) := by
    unfold Jvm.FP.Core.fieldS
    rw [Jvm.FP.Core.tails_b32, show Jvm.FP.Core.b32.exps = 256 by decide]
    by_cases c : 2 ^ 31 ≤ r.toNat
    · rw [decide_eq_true c, show r.toNat / 2 ^ 23 / 256 % 2 = 1 by omega]; rfl
    · rw [decide_eq_false c, show r.toNat / 2 ^ 23 / 256 % 2 = 0 by omega]; rfl
  have hE : r.toNat / 2 ^ 23 % 256 ≠ 255 := by omega
  show ∃ c : Nat, ∃ q : Int, Jvm.FP.Core.decode Jvm.FP.Core.b32 r.toNat = _ ∧ _
  unfold Jvm.FP.Core.decode
  rw [eT, eE, eS, Jvm.FP.Core.exps_b32, if_neg hE, Jvm.FP.Core.tails_b32, Jvm.FP.Core.qmin_b32]
  by_cases c : r.toNat / 2 ^ 23 % 256 = 0
  · rw [if_pos c]
    exact ⟨_, _, rfl, by omega, by omega, by omega, by omega, .inr ⟨by omega, rfl, by omega⟩⟩
  · rw [if_neg c]
    exact ⟨_, _, rfl, by omega, by omega, by omega, by omega, .inl ⟨by omega, by omega⟩⟩
theorem bitsOf_e {r : UInt32} (hf : Jvm.FP.Core.FFin r) (hz : r.toNat ≠ 2 ^ 31) (h : hp) : fX11_bitsOf r h = some (r.toInt32, h) := by
  have hb := r.toNat_lt
  have hn := hf.ne_nan
  by_cases h0 : r.toNat % 2 ^ 31 = 0
  · have e0 : r = 0 := UInt32.toNat_inj.mp (by show r.toNat = 0; omega)
    subst e0
    have c : (Op.cmpValue (FP.fcmp 0 FP.fconst0) .l) = 0 := by rw [cmpl_eq hn nn0]; rfl
    unfold fX11_bitsOf
    rw [if_pos c]; rfl
  · obtain ⟨c, q, hv, hc0, hc1, hq1, hq2, hm⟩ := f_parts hf h0
    -- the double
    have l1 : 2 ^ c.log2 ≤ c := Nat.log2_self_le (by omega)
    have l2 : c < 2 ^ (c.log2 + 1) := Nat.lt_log2_self
    have l3 : c.log2 < 24 := (Nat.pow_lt_pow_iff_right (by decide : 1 < 2)).mp (Nat.lt_of_le_of_lt l1 hc1)
    obtain ⟨k, hk⟩ : ∃ k, k = 52 - c.log2 := ⟨_, rfl⟩
    have hC : 2 ^ 52 ≤ c * 2 ^ k ∧ c * 2 ^ k < 2 ^ 53 := by
      constructor
      · calc 2 ^ 52 = 2 ^ c.log2 * 2 ^ k := by rw [← Nat.pow_add]; congr 1; omega
          _ ≤ c * 2 ^ k := Nat.mul_le_mul_right _ l1
      · calc c * 2 ^ k < 2 ^ (c.log2 + 1) * 2 ^ k := Nat.mul_lt_mul_of_pos_right l2 (Nat.two_pow_pos _)
          _ = 2 ^ 53 := by rw [← Nat.pow_add]; congr 1; omega
    have hnd : ndf (c * 2 ^ k) (q - k) := ⟨hC.1, hC.2, by omega, by omega⟩
    have hnan : Jvm.FP.Core.fIsNaN r = false := hf.notNaN
    have hd : Jvm.FP.Core.val64 (FP.f2d r) = .fin (decide (2 ^ 31 ≤ r.toNat)) (c * 2 ^ k) (q - k) := by
      unfold FP.f2d
      rw [hnan]
      simp only [Bool.false_eq_true, if_false]
      rw [Jvm.FP.Core.val64_f2d, hv]
      refine Jvm.FP.Core.roundRatio_exact Jvm.FP.Core.good_b64 (by decide) (nd_fits hnd) ?_
      rw [show (q - (q - (k : Int))).toNat = k by omega, show (q - (k : Int) - q).toNat = 0 by omega, Nat.pow_zero, Nat.mul_one, Nat.mul_one]
    have hdn : dnn (FP.f2d r) = some (FP.f2d r) := dnn_ok ((Jvm.FP.Core.notNaN_iff _).mpr (nn_fin hd))
    -- both loops
    have lp : ∃ (Q : Int) (x v4 : Int32) (v3 : UInt64), (∀ g : hp, fX11_bitsOf_l28 FU r (nd (c * 2 ^ k) (q - k)) 0 0 g = some (v3, v4, g)) ∧ (∀ g : hp, fX11_bitsOf_l63 FU r v3 v4 0 g = some (nd (c * 2 ^ k) Q, x, g)) ∧ ((2 ^ 23 ≤ c ∧ x + 127 = iN (q + 150).toNat) ∨ c < 2 ^ 23) ∧ Q = -23 - k ∧ ndf (c * 2 ^ k) Q ∧ ndf (c * 2 ^ k) (Q + 23) := by
      by_cases cq : q - k ≤ -52
      · -- below 2
        obtain ⟨j, hj⟩ : ∃ j : Nat, j = min (-52 - (q - k)).toNat 126 := ⟨_, rfl⟩
        refine ⟨q - k + j, 0 - iN j, 0, nd (c * 2 ^ k) (q - k), fun g => bl1' hnd cq 999999 0, fun g => bl2 hC j 0 FU (q - k) 0 (by omega) (by omega) (by omega) (by omega) (by show j < 1000000; omega), ?_⟩
        rcases hm with ⟨m1, m2⟩ | ⟨m1, m2, m3⟩
        · have : c.log2 = 23 := by
            have : 23 < c.log2 + 1 := (Nat.pow_lt_pow_iff_right (by decide : 1 < 2)).mp (Nat.lt_of_le_of_lt m1 l2)
            omega
          refine ⟨.inl ⟨m1, ?_⟩, by omega, ⟨hC.1, hC.2, by omega, by omega⟩, ⟨hC.1, hC.2, by omega, by omega⟩⟩
          rw [Int32.sub_eq_add_neg, Int32.zero_add, Int32.add_comm, ← Int32.sub_eq_add_neg, show (127 : Int32) = iN 127 from rfl, i_sub (by omega)]
          congr 1; omega
        · have : c.log2 < 23 := (Nat.pow_lt_pow_iff_right (by decide : 1 < 2)).mp (Nat.lt_of_le_of_lt l1 m1)
          exact ⟨.inr m1, by omega, ⟨hC.1, hC.2, by omega, by omega⟩, ⟨hC.1, hC.2, by omega, by omega⟩⟩
      · obtain ⟨d, hd'⟩ : ∃ d : Nat, q - k = -52 + (d : Int) := ⟨(q - k + 52).toNat, by omega⟩
        have m1 : 2 ^ 23 ≤ c := by
          rcases hm with ⟨m1, m2⟩ | ⟨m1, m2, m3⟩
          · exact m1
          · omega
        have : c.log2 = 23 := by
          have : 23 < c.log2 + 1 := (Nat.pow_lt_pow_iff_right (by decide : 1 < 2)).mp (Nat.lt_of_le_of_lt m1 l2)
          omega
        refine ⟨-52, 0 + iN d - iN 0, 0 + iN d, nd (c * 2 ^ k) (-52), fun g => ?_, fun g => ?_, .inl ⟨m1, ?_⟩, by omega, ⟨hC.1, hC.2, by decide, by decide⟩, ⟨hC.1, hC.2, by decide, by decide⟩⟩
        · rw [hd']; exact bl1 hC d 0 FU 0 (by omega) (by show d < 1000000; omega)
        · exact bl2 hC 0 0 FU (-52) (0 + iN d) (by decide) (by decide) (.inl (by decide)) (by decide) (by decide)
        · rw [show 0 + iN d - iN 0 = 0 + iN d from Int32.sub_zero _, Int32.zero_add, show (127 : Int32) = iN 127 from rfl, i_add]; congr 1; omega
    obtain ⟨Q, x, v4, v3, hl1, hl2, hQ, hQ2, f1, f2⟩ := lp
    have e23 : FP.dmul (nd (c * 2 ^ k) Q) 4710765210229538816 = nd (c * 2 ^ k) (Q + 23) := nd_mul k23 f1 f2
    have ek : Q + 23 = -(k : Int) := by omega
    have ed : FP.d2i (nd (c * 2 ^ k) (Q + 23)) = iN c := by
      rw [ek] at f2 ⊢
      rw [nd_d2i f2 (by rw [Nat.mul_div_cancel _ (Nat.two_pow_pos k)]; omega), Nat.mul_div_cancel _ (Nat.two_pow_pos k)]
    have body : ∀ g : hp, (bd3 (fX11_bitsOf_l28 FU r (nd (c * 2 ^ k) (q - k)) 0 0 g) fun v3 v4 h2 => bd3 (fX11_bitsOf_l63 FU r v3 v4 0 h2) fun v7 v8 h6 => (dnn (FP.dmul v7 4710765210229538816)).bind fun v9 => jn (fun (p122_4 : Int32) (h122j : hp) => if 0 ≤ (Op.cmpValue (FP.fcmp r FP.fconst0) .g) then some (p122_4, h122j) else some ((p122_4 ||| (-2147483648)), h122j)) fun k122 => if (FP.d2i v9) < 8388608 then k122 (FP.d2i v9) h6 else k122 (((FP.d2i v9) - 8388608) + ((v8 + 127) <<< ((23 : Int32) &&& 31))) h6) = some (if 0 ≤ (Op.cmpValue (FP.fcmp r FP.fconst0) .g) then iN (r.toNat % 2 ^ 31) else (iN (r.toNat % 2 ^ 31) ||| (-2147483648)), g) := by
      intro g
      rw [hl1 g, show (bd3 (some (v3, v4, g)) fun v3 v4 h2 => bd3 (fX11_bitsOf_l63 FU r v3 v4 0 h2) fun v7 v8 h6 => (dnn (FP.dmul v7 4710765210229538816)).bind fun v9 => jn (fun (p122_4 : Int32) (h122j : hp) => if 0 ≤ (Op.cmpValue (FP.fcmp r FP.fconst0) .g) then some (p122_4, h122j) else some ((p122_4 ||| (-2147483648)), h122j)) fun k122 => if (FP.d2i v9) < 8388608 then k122 (FP.d2i v9) h6 else k122 (((FP.d2i v9) - 8388608) + ((v8 + 127) <<< ((23 : Int32) &&& 31))) h6) = (bd3 (fX11_bitsOf_l63 FU r v3 v4 0 g) fun v7 v8 h6 => (dnn (FP.dmul v7 4710765210229538816)).bind fun v9 => jn (fun (p122_4 : Int32) (h122j : hp) => if 0 ≤ (Op.cmpValue (FP.fcmp r FP.fconst0) .g) then some (p122_4, h122j) else some ((p122_4 ||| (-2147483648)), h122j)) fun k122 => if (FP.d2i v9) < 8388608 then k122 (FP.d2i v9) h6 else k122 (((FP.d2i v9) - 8388608) + ((v8 + 127) <<< ((23 : Int32) &&& 31))) h6) from rfl, hl2 g]
      show ((dnn (FP.dmul (nd (c * 2 ^ k) Q) 4710765210229538816)).bind _) = _
      rw [e23, nd_nn f2, Option.bind_some, jn_e, ed]
      have key : (if iN c < 8388608 then iN c else ((iN c - 8388608) + ((x + 127) <<< ((23 : Int32) &&& 31)))) = iN (r.toNat % 2 ^ 31) := by
        rcases hm with ⟨m1, m2⟩ | ⟨m1, m2, m3⟩
        · have hx : x + 127 = iN (q + 150).toNat := by
            rcases hQ with ⟨_, hx⟩ | hx
            · exact hx
            · omega
          have hE : (q + 150).toNat ≤ 254 := by omega
          have sh : iN (q + 150).toNat <<< ((23 : Int32) &&& 31) = iN ((q + 150).toNat * 2 ^ 23) := by
            apply Int32.toInt_inj.mp
            rw [Jvm.Kit.i32_shl (k := 23) _ _ (by decide) (by rw [i_toInt (by omega)]; omega) (by rw [i_toInt (by omega)]; omega), i_toInt (by omega), i_toInt (by omega)]
            omega
          rw [if_neg (by rw [i_lt_lit (by decide) (by omega)]; omega), hx, sh, show (8388608 : Int32) = iN 8388608 from rfl, i_sub (by omega), i_add]
          congr 1; omega
        · rw [if_pos (by rw [i_lt_lit (by decide) (by omega)]; omega)]
          congr 1; omega
      by_cases c8 : iN c < 8388608
      · rw [if_pos c8] at key ⊢
        rw [key]
        split <;> rfl
      · rw [if_neg c8] at key ⊢
        rw [key]
        split <;> rfl
    have hsg : 0 ≤ (Op.cmpValue (FP.fcmp r FP.fconst0) .g) ↔ r.toNat < 2 ^ 31 := by
      rw [cmpg_ge hn nn0, ky0]
      unfold Jvm.FP.Core.fkey
      split <;> omega
    have cz : ¬ ((Op.cmpValue (FP.fcmp r FP.fconst0) .l) = 0) := by
      rw [cmpl_eq hn nn0, ky0]
      unfold Jvm.FP.Core.fkey
      split <;> omega
    unfold fX11_bitsOf
    rw [if_neg cz, jn_e, hdn, Option.bind_some, Option.bind_some]
    by_cases cs : 0 ≤ (Op.cmpValue (FP.fcmp r FP.fconst0) .g)
    · have cs' := hsg.mp cs
      rw [if_pos cs]
      have ea : FP.f2d r = nd (c * 2 ^ k) (q - k) := nd_of (by rw [hd, decide_eq_false (by omega)])
      rw [ea]
      have b := body h
      rw [if_pos cs] at b
      refine b.trans ?_
      congr 2
      apply Int32.toBitVec_inj.mp
      apply BitVec.eq_of_toNat_eq
      show (BitVec.ofNat 32 (r.toNat % 2 ^ 31)).toNat = r.toBitVec.toNat
      rw [BitVec.toNat_ofNat]
      show _ = r.toNat
      omega
    · have cs' : 2 ^ 31 ≤ r.toNat := Nat.le_of_not_lt fun z => cs (hsg.mpr z)
      rw [if_neg cs]
      have hd1 : Jvm.FP.Core.val64 (FP.f2d r) = .fin true (c * 2 ^ k) (q - k) := by rw [hd, decide_eq_true cs']
      have hbig : 2 ^ 63 ≤ (FP.f2d r).toNat := (Jvm.FP.Core.sign_bits (.inl ⟨_, _, hd1⟩)).mp rfl
      have ea : FP.dneg (FP.f2d r) = nd (c * 2 ^ k) (q - k) := by
        apply nd_of
        rw [Jvm.FP.Core.val64_neg_bits (a := FP.f2d r) (.inl (by rw [dneg_e hbig]; omega)), hd1]
        rfl
      rw [ea]
      have b := body h
      rw [if_neg cs] at b
      refine b.trans ?_
      congr 2
      apply Int32.toBitVec_inj.mp
      apply BitVec.eq_of_toNat_eq
      show (BitVec.ofNat 32 (r.toNat % 2 ^ 31) ||| (-2147483648 : Int32).toBitVec).toNat = r.toBitVec.toNat
      rw [BitVec.toNat_or, BitVec.toNat_ofNat, show ((-2147483648 : Int32).toBitVec).toNat = 2 ^ 31 by decide, Nat.mod_eq_of_lt (show r.toNat % 2 ^ 31 < 2 ^ 32 by omega), Nat.or_comm]
      have := Nat.two_pow_add_eq_or_of_lt (i := 31) (b := r.toNat % 2 ^ 31) (by omega) 1
      rw [Nat.mul_one] at this
      rw [← this]
      show _ = r.toNat
      omega

/-! the FILTERS, told once for both -/
theorem lgc_lt (x y : Int64) : (lg_cmp x y) < 0 ↔ x.toInt < y.toInt := (lg_cmp_lt x y).trans Int64.lt_iff_toInt_lt
theorem lgc_gt (x y : Int64) : 0 < (lg_cmp x y) ↔ y.toInt < x.toInt := (lg_cmp_gt x y).trans Int64.lt_iff_toInt_lt
theorem isIn_e (x lo hi : Int64) (h : hp) : fX14_isIn x lo hi h = some (if lo.toInt ≤ x.toInt ∧ x.toInt ≤ hi.toInt then 1 else 0, h) := by
  unfold fX14_isIn
  by_cases h1 : x.toInt < lo.toInt
  · rw [if_pos ((lgc_lt _ _).mpr h1), if_neg (by omega)]
  · rw [if_neg (fun q => h1 ((lgc_lt _ _).mp q))]
    by_cases h2 : hi.toInt < x.toInt
    · rw [if_pos ((lgc_gt _ _).mpr h2), if_neg (by omega)]
    · rw [if_neg (fun q => h2 ((lgc_gt _ _).mp q)), if_pos (by omega)]
theorem isInt_e (x : Int64) (h : hp) : fX11_isInt x h = some (if inL x then 1 else 0, h) := by
  have l1 : (-1000000 : Int64).toInt = -1000000 := by decide
  have l2 : (1000000 : Int64).toInt = 1000000 := by decide
  have e := isIn_e x (-1000000) 1000000 h
  rw [l1, l2] at e
  rw [show fX11_isInt x h = fX14_isIn x (-1000000) 1000000 h from rfl, e]
  unfold inL
  by_cases c : -1000000 ≤ x.toInt ∧ x.toInt ≤ 1000000
  · rw [if_pos c, if_pos (by simpa using c)]
  · rw [if_neg c, if_neg (by simpa using c)]
theorem cCounted {h : hp} {a b : Nat} {V : vT} (x : Int64) (H : CV h a b V) : ∃ h', fX11_becomeCounted a x h = some (iN (cnt x V).1, h') ∧ CV h' a b (cnt x V).2 ∧ FI [a] h h' := by
  obtain ⟨t1, t2, r1, ne⟩ := id H.1
  unfold cnt
  by_cases c : inL x = true
  · rw [if_pos c]
    refine ⟨pI (pI (pI h a 0 1) a 1 x.toInt32) a 3 0, ?_, ⟨H.1, by simp [hI_pI, vI]; rfl, by simp [vI], by simp [hI_pI, vI], by simp [vI], by simp [vI]⟩, FI.tr' (FI.tr' (FI.pI ..) (FI.pI ..)) (FI.pI ..)⟩
    have z : ¬ ((1 : Int32) = 0) := by decide
    simp only [fX11_becomeCounted, isInt_e, c, bd2, Option.bind_some, if_true, z, if_false, pfI, hT_pI, t1]
    rfl
  · rw [if_neg c]
    refine ⟨h, ?_, H, FI.rf _ _⟩
    simp only [fX11_becomeCounted, isInt_e, c, bd2, Option.bind_some, if_false, if_true]
    rfl
/-- what is promised of a value -/
def gV (V : vT) : Prop := V.1 ≤ 4 ∧ (V.1 = 1 → inI V.2.1) ∧ (V.1 = 2 → gF V.2.2.1) ∧ (V.1 = 3 → V.2.2.2.1 ≤ 16 ∧ ∀ k, k < V.2.2.2.1 → 1 ≤ (V.2.2.2.2 k).toInt ∧ (V.2.2.2.2 k).toInt ≤ 127) ∧ (V.1 = 4 → V.2.2.2.1 ≤ 6 ∧ ∀ k, k < V.2.2.2.1 → inI (V.2.2.2.2 k))
theorem gvN : gV vN := ⟨by simp [vN], by simp [vN], by simp [vN], by simp [vN], by simp [vN]⟩
theorem gvI {x : Int32} (h : inI x) : gV (vI x) := ⟨by simp [vI], fun _ => h, by simp [vI], by simp [vI], by simp [vI]⟩
theorem gvR {r : UInt32} (h : gF r) : gV (vR r) := ⟨by simp [vR], by simp [vR], fun _ => h, by simp [vR], by simp [vR]⟩
/-- the higher bits of an int as a double, by 4096 -/
def biF (x : Int32) : Int32 := (((FP.i2d x).toInt64 >>> ((32 : Int32).toInt64 &&& 63)).toInt32) / 4096
/-- FILTER q with n: the fault's sort (0: none), the value -/
def fltS (q : Nat) (n : Int32) (V : vT) : Nat × vT :=
  if q = 17 then (0, if V.1 = 0 then vI n else V) else
  if V.1 = 1 then (if q = 4 then (0, vI (V.2.1 / 2)) else if q = 5 then (0, vR (limF (FP.fdiv (FP.i2f V.2.1) 1077936128))) else if q = 6 then (0, V) else if q = 7 then (0, vR (limF (FP.i2f V.2.1))) else if q = 8 then (0, vI (biF V.2.1)) else if q = 15 then cnt (V.2.1.toInt64 + n.toInt64) V else if q = 16 then cnt (V.2.1.toInt64 * n.toInt64) V else (2, V)) else
  if V.1 = 2 then (if q = 4 then (0, vR (limF (FP.fmul V.2.2.1 1056964608))) else if q = 5 then (0, vR (limF (FP.fdiv V.2.2.1 1077936128))) else if q = 6 then (0, vI (FP.f2i V.2.2.1)) else if q = 7 then (0, V) else if q = 8 then (0, vI (V.2.2.1.toInt32 / 4096)) else if q = 15 then (0, vR (limF (FP.fadd V.2.2.1 (FP.i2f n)))) else if q = 16 then (0, vR (limF (FP.fmul V.2.2.1 (FP.i2f n)))) else (2, V)) else
  if V.1 = 3 then (if q = 0 then (0, vL 3 V.2.2.2.1 (fun k => upF (V.2.2.2.2 k))) else if q = 1 then (0, vL 3 V.2.2.2.1 (fun k => loF (V.2.2.2.2 k))) else if q = 2 then (0, vL 3 V.2.2.2.1 (fun k => V.2.2.2.2 (V.2.2.2.1 - 1 - k))) else if q = 3 then (0, vI (iN V.2.2.2.1)) else if q = 6 then (0, vI (fgF V.2.2.2.2 V.2.2.2.1 0 0)) else if q = 9 then (0, vL 3 (min V.2.2.2.1 1) V.2.2.2.2) else if q = 10 then (0, vL 3 (min V.2.2.2.1 1) (fun _ => V.2.2.2.2 (V.2.2.2.1 - 1))) else if q = 13 then (0, vL 3 (min V.2.2.2.1 n.toNatClampNeg) V.2.2.2.2) else if q = 14 then (0, vL 3 (max V.2.2.2.1 (min n.toNatClampNeg 16)) (fun k => if k < V.2.2.2.1 then V.2.2.2.2 k else 32)) else (2, V)) else
  if V.1 = 4 then (if q = 2 then (0, vL 4 V.2.2.2.1 (fun k => V.2.2.2.2 (V.2.2.2.1 - 1 - k))) else if q = 3 then (0, vI (iN V.2.2.2.1)) else if q = 9 then (0, if V.2.2.2.1 = 0 then vN else vI (V.2.2.2.2 0)) else if q = 10 then (0, if V.2.2.2.1 = 0 then vN else vI (V.2.2.2.2 (V.2.2.2.1 - 1))) else if q = 11 then cnt (suF V.2.2.2.2 V.2.2.2.1 0 0) V else if q = 12 then (0, vL 4 V.2.2.2.1 (soF (V.2.2.2.1 - 1) 1 V.2.2.2.2)) else if q = 13 then (0, vL 4 (min V.2.2.2.1 n.toNatClampNeg) V.2.2.2.2) else (2, V)) else (2, V)
/-- the class's constants by the reference's order -/
def cwL : List Nat := [1, 2, 3, 4, 9, 10, 11, 12, 13, 14, 15, 16, 17, 5, 6, 7, 8, 18]
def fa (q : Nat) : Nat := cwL.getD q 0
def sw (q : Nat) : Int32 := swL.getD (fa q - 1) 0
theorem fa_ok : ∀ q, q < 18 → ckE (fa q) = some () ∧ gsO (fa q) = some (Int32.ofNat (fa q - 1)) ∧ alS 20 (Int32.ofNat (fa q - 1)) = some (sw q) ∧ acm (fa q) 18 = some () := by decide

theorem cnt_i {x : Int32} (h : inI x) (V : vT) : cnt x.toInt64 V = (0, vI x) := by
  have h' : -1000000 ≤ x.toInt ∧ x.toInt ≤ 1000000 := h
  unfold cnt inL
  rw [Int32.toInt_toInt64, if_pos (decide_eq_true h'), Int32.toInt32_toInt64]
theorem inI_div {x : Int32} {k : Int32} (hk : k.toInt = 2 ∨ k.toInt = 4096) (h : k.toInt = 4096 ∨ inI x) : inI (x / k) := by
  have h1 := Int32.le_toInt x
  have h2 := Int32.toInt_lt x
  have e : (x / k).toInt = x.toInt.tdiv k.toInt := Jvm.Kit.i32_div (by omega)
  unfold inI at *
  rw [e]
  rcases hk with hk | hk <;> rw [hk] at h ⊢
  · have h3 : -1000000 ≤ x.toInt ∧ x.toInt ≤ 1000000 := by omega
    have := Int.tdiv_eq_ediv (a := x.toInt) (b := 2)
    rw [show (2 : Int).sign = 1 from rfl] at this
    split at this <;> omega
  · have := Int.tdiv_eq_ediv (a := x.toInt) (b := 4096)
    rw [show (4096 : Int).sign = 1 from rfl] at this
    split at this <;> omega
theorem f2i_in {r : UInt32} (h : gF r) : inI (FP.f2i r) ∧ (r.toNat < 2 ^ 31 → 0 ≤ (FP.f2i r).toInt) := by
  have hn : Jvm.FP.Core.val32 r ≠ .nan := (gF_fin h).ne_nan
  have e := Jvm.FP.Core.f2i_val hn
  rw [Jvm.FP.Core.zmag_toNat32 hn, Jvm.FP.Core.sgn_bits32 hn] at e
  have u : Jvm.FP.Core.unitsOf Jvm.FP.Core.b32 (r.toNat % 2 ^ 31) ≤ Jvm.FP.Core.unitsOf Jvm.FP.Core.b32 1232348160 := Jvm.FP.Core.unitsOf_le_iff.mpr h.1
  have u2 : Jvm.FP.Core.unitsOf Jvm.FP.Core.b32 1232348160 = 1000000 * Jvm.FP.Core.one32 := by decide +kernel
  rw [u2] at u
  have u3 : Jvm.FP.Core.unitsOf Jvm.FP.Core.b32 (r.toNat % 2 ^ 31) / Jvm.FP.Core.one32 ≤ 1000000 := (Nat.div_le_iff_le_mul_add_pred Jvm.FP.Core.one32_pos).mpr (by rw [Nat.mul_comm]; omega)
  generalize Jvm.FP.Core.unitsOf Jvm.FP.Core.b32 (r.toNat % 2 ^ 31) / Jvm.FP.Core.one32 = z at e u3
  unfold inI
  show (-1000000 ≤ (Jvm.FP.Core.f2i r).toInt ∧ (Jvm.FP.Core.f2i r).toInt ≤ 1000000) ∧ (_ → 0 ≤ (Jvm.FP.Core.f2i r).toInt)
  rw [e]
  unfold Jvm.FP.Core.signed
  by_cases c : 2 ^ 31 ≤ r.toNat
  · rw [decide_eq_true c]; simp only [if_true]; omega
  · rw [decide_eq_false c]; simp only [Bool.false_eq_true, if_false]; omega
theorem cFI {h : hp} {a b m q : Nat} {x : Int32} {r : UInt32} {n : Nat} {f : Nat → Int32} (H : CV h a b (1, x, r, n, f)) (g : inI x) (hbi : ∀ h : hp, fX11_highBitsOf x h = some ((((FP.i2d x).toInt64 >>> ((32 : Int32).toInt64 &&& 63)).toInt32), h)) (hq : q < 17) : ∃ h', fX11_filterInt a (fa q) (iN m) h = some (iN (fltS q (iN m) (1, x, r, n, f)).1, h') ∧ CV h' a b (fltS q (iN m) (1, x, r, n, f)).2 ∧ FI [a, b] h h' := by
  obtain ⟨t1, t2, r1, ne⟩ := id H.1
  have hx : hI h a 1 = x := H.2.2.2.1 rfl
  obtain ⟨k1, k2, k3, -⟩ := fa_ok q (by omega)
  have z2 : ¬ ((2 : Int32) = 0) := by decide
  have z3 : ¬ ((1077936128 : UInt32) = 0) := by decide
  have z4 : ¬ ((4096 : Int32) = 0) := by decide
  simp only [fX11_filterInt, k1, k2, k3, Option.bind_some]
  have hqs : q = 0 ∨ q = 1 ∨ q = 2 ∨ q = 3 ∨ q = 4 ∨ q = 5 ∨ q = 6 ∨ q = 7 ∨ q = 8 ∨ q = 9 ∨ q = 10 ∨ q = 11 ∨ q = 12 ∨ q = 13 ∨ q = 14 ∨ q = 15 ∨ q = 16 := by omega
  rcases hqs with rfl | rfl | rfl | rfl | rfl | rfl | rfl | rfl | rfl | rfl | rfl | rfl | rfl | rfl | rfl | rfl | rfl
  · rw [show sw 0 = 8 from rfl, if_neg (by decide), if_neg (by decide), if_neg (by decide), if_neg (by decide), if_neg (by decide), if_neg (by decide), if_neg (by decide)]
    exact ⟨h, rfl, H, FI.rf _ _⟩
  · rw [show sw 1 = 9 from rfl, if_neg (by decide), if_neg (by decide), if_neg (by decide), if_neg (by decide), if_neg (by decide), if_neg (by decide), if_neg (by decide)]
    exact ⟨h, rfl, H, FI.rf _ _⟩
  · rw [show sw 2 = 15 from rfl, if_neg (by decide), if_neg (by decide), if_neg (by decide), if_neg (by decide), if_neg (by decide), if_neg (by decide), if_neg (by decide)]
    exact ⟨h, rfl, H, FI.rf _ _⟩
  · rw [show sw 3 = 16 from rfl, if_neg (by decide), if_neg (by decide), if_neg (by decide), if_neg (by decide), if_neg (by decide), if_neg (by decide), if_neg (by decide)]
    exact ⟨h, rfl, H, FI.rf _ _⟩
  · rw [show sw 4 = 3 from rfl, if_neg (by decide), if_neg (by decide), if_pos rfl]
    obtain ⟨h1, e1, e2, e3⟩ := cCounted (x / 2).toInt64 H
    rw [cnt_i (inI_div (.inl (by decide)) (.inr g))] at e1 e2
    simp only [gfI, ckT, dvI, t1, hx, z2, if_true, if_false, Option.bind_some, bd2, e1]
    exact ⟨h1, rfl, e2, e3.up (by simp)⟩
  · rw [show sw 5 = 4 from rfl, if_neg (by decide), if_neg (by decide), if_neg (by decide), if_pos rfl]
    have nn : Jvm.FP.Core.fIsNaN (FP.fdiv (FP.i2f x) 1077936128) = false := Jvm.FP.Core.fdiv_out (Jvm.FP.Core.i2f_fin x).notNaN (by rw [Jvm.FP.Core.fin_bits32]; decide) (by rw [Jvm.FP.Core.zero_bits232]; decide)
    obtain ⟨h1, e1, e2, e3⟩ := cReal (FP.fdiv (FP.i2f x) 1077936128) H.1
    simp only [gfI, ckT, t1, hx, if_true, Option.bind_some, fnn_ok nn, e1]
    exact ⟨h1, rfl, e2, e3.up (by simp)⟩
  · rw [show sw 6 = 5 from rfl, if_neg (by decide), if_neg (by decide), if_neg (by decide), if_neg (by decide), if_pos rfl]
    exact ⟨h, rfl, H, FI.rf _ _⟩
  · rw [show sw 7 = 6 from rfl, if_neg (by decide), if_neg (by decide), if_neg (by decide), if_neg (by decide), if_neg (by decide), if_pos rfl]
    obtain ⟨h1, e1, e2, e3⟩ := cReal (FP.i2f x) H.1
    simp only [gfI, ckT, t1, hx, if_true, Option.bind_some, e1]
    exact ⟨h1, rfl, e2, e3.up (by simp)⟩
  · rw [show sw 8 = 7 from rfl, if_neg (by decide), if_neg (by decide), if_neg (by decide), if_neg (by decide), if_neg (by decide), if_neg (by decide), if_pos rfl]
    obtain ⟨h1, e1, e2, e3⟩ := cCounted (biF x).toInt64 H
    have hb : inI (biF x) := inI_div (k := 4096) (.inr (by decide)) (.inl (by decide))
    rw [cnt_i hb] at e1 e2
    simp only [gfI, ckT, dvI, t1, hx, z4, if_true, if_false, Option.bind_some, bd2, hbi]
    refine ⟨h1, ?_, e2, e3.up (by simp)⟩
    show ((fX11_becomeCounted a (biF x).toInt64 h).bind fun q => some (q.1, q.2)) = _
    rw [e1]; rfl
  · rw [show sw 9 = 11 from rfl, if_neg (by decide), if_neg (by decide), if_neg (by decide), if_neg (by decide), if_neg (by decide), if_neg (by decide), if_neg (by decide)]
    exact ⟨h, rfl, H, FI.rf _ _⟩
  · rw [show sw 10 = 12 from rfl, if_neg (by decide), if_neg (by decide), if_neg (by decide), if_neg (by decide), if_neg (by decide), if_neg (by decide), if_neg (by decide)]
    exact ⟨h, rfl, H, FI.rf _ _⟩
  · rw [show sw 11 = 13 from rfl, if_neg (by decide), if_neg (by decide), if_neg (by decide), if_neg (by decide), if_neg (by decide), if_neg (by decide), if_neg (by decide)]
    exact ⟨h, rfl, H, FI.rf _ _⟩
  · rw [show sw 12 = 14 from rfl, if_neg (by decide), if_neg (by decide), if_neg (by decide), if_neg (by decide), if_neg (by decide), if_neg (by decide), if_neg (by decide)]
    exact ⟨h, rfl, H, FI.rf _ _⟩
  · rw [show sw 13 = 17 from rfl, if_neg (by decide), if_neg (by decide), if_neg (by decide), if_neg (by decide), if_neg (by decide), if_neg (by decide), if_neg (by decide)]
    exact ⟨h, rfl, H, FI.rf _ _⟩
  · rw [show sw 14 = 10 from rfl, if_neg (by decide), if_neg (by decide), if_neg (by decide), if_neg (by decide), if_neg (by decide), if_neg (by decide), if_neg (by decide)]
    exact ⟨h, rfl, H, FI.rf _ _⟩
  · rw [show sw 15 = 1 from rfl, if_pos rfl]
    obtain ⟨h1, e1, e2, e3⟩ := cCounted (x.toInt64 + (iN m).toInt64) H
    simp only [gfI, ckT, t1, hx, if_true, Option.bind_some, bd2, e1]
    exact ⟨h1, rfl, e2, e3.up (by simp)⟩
  · rw [show sw 16 = 2 from rfl, if_neg (by decide), if_pos rfl]
    obtain ⟨h1, e1, e2, e3⟩ := cCounted (x.toInt64 * (iN m).toInt64) H
    simp only [gfI, ckT, t1, hx, if_true, Option.bind_some, bd2, e1]
    exact ⟨h1, rfl, e2, e3.up (by simp)⟩
theorem cFR {h : hp} {a b m q : Nat} {x : Int32} {r : UInt32} {n : Nat} {f : Nat → Int32} (H : CV h a b (2, x, r, n, f)) (g : gF r) (hbi : ∀ h : hp, fX11_bitsOf r h = some (r.toInt32, h)) (hq : q < 17) : ∃ h', fX11_filterReal a (fa q) (iN m) h = some (iN (fltS q (iN m) (2, x, r, n, f)).1, h') ∧ CV h' a b (fltS q (iN m) (2, x, r, n, f)).2 ∧ FI [a, b] h h' := by
  obtain ⟨t1, t2, r1, ne⟩ := id H.1
  have hx : hF h a 2 = r := H.2.2.2.2.1 rfl
  have hf := gF_fin g
  obtain ⟨k1, k2, k3, -⟩ := fa_ok q (by omega)
  have z4 : ¬ ((4096 : Int32) = 0) := by decide
  simp only [fX11_filterReal, k1, k2, k3, Option.bind_some]
  have hqs : q = 0 ∨ q = 1 ∨ q = 2 ∨ q = 3 ∨ q = 4 ∨ q = 5 ∨ q = 6 ∨ q = 7 ∨ q = 8 ∨ q = 9 ∨ q = 10 ∨ q = 11 ∨ q = 12 ∨ q = 13 ∨ q = 14 ∨ q = 15 ∨ q = 16 := by omega
  rcases hqs with rfl | rfl | rfl | rfl | rfl | rfl | rfl | rfl | rfl | rfl | rfl | rfl | rfl | rfl | rfl | rfl | rfl
  · rw [show sw 0 = 8 from rfl, if_neg (by decide), if_neg (by decide), if_neg (by decide), if_neg (by decide), if_neg (by decide), if_neg (by decide), if_neg (by decide)]
    exact ⟨h, rfl, H, FI.rf _ _⟩
  · rw [show sw 1 = 9 from rfl, if_neg (by decide), if_neg (by decide), if_neg (by decide), if_neg (by decide), if_neg (by decide), if_neg (by decide), if_neg (by decide)]
    exact ⟨h, rfl, H, FI.rf _ _⟩
  · rw [show sw 2 = 15 from rfl, if_neg (by decide), if_neg (by decide), if_neg (by decide), if_neg (by decide), if_neg (by decide), if_neg (by decide), if_neg (by decide)]
    exact ⟨h, rfl, H, FI.rf _ _⟩
  · rw [show sw 3 = 16 from rfl, if_neg (by decide), if_neg (by decide), if_neg (by decide), if_neg (by decide), if_neg (by decide), if_neg (by decide), if_neg (by decide)]
    exact ⟨h, rfl, H, FI.rf _ _⟩
  · rw [show sw 4 = 3 from rfl, if_neg (by decide), if_neg (by decide), if_pos rfl]
    have nn : Jvm.FP.Core.fIsNaN (FP.fmul r 1056964608) = false := Jvm.FP.Core.fmul_out hf (by rw [Jvm.FP.Core.fin_bits32]; decide)
    obtain ⟨h1, e1, e2, e3⟩ := cReal (FP.fmul r 1056964608) H.1
    simp only [gfF, ckT, t1, hx, if_true, Option.bind_some, fnn_ok nn, e1]
    exact ⟨h1, rfl, e2, e3.up (by simp)⟩
  · rw [show sw 5 = 4 from rfl, if_neg (by decide), if_neg (by decide), if_neg (by decide), if_pos rfl]
    have nn : Jvm.FP.Core.fIsNaN (FP.fdiv r 1077936128) = false := Jvm.FP.Core.fdiv_out hf.notNaN (by rw [Jvm.FP.Core.fin_bits32]; decide) (by rw [Jvm.FP.Core.zero_bits232]; decide)
    obtain ⟨h1, e1, e2, e3⟩ := cReal (FP.fdiv r 1077936128) H.1
    simp only [gfF, ckT, t1, hx, if_true, Option.bind_some, fnn_ok nn, e1]
    exact ⟨h1, rfl, e2, e3.up (by simp)⟩
  · rw [show sw 6 = 5 from rfl, if_neg (by decide), if_neg (by decide), if_neg (by decide), if_neg (by decide), if_pos rfl]
    obtain ⟨h1, e1, e2, e3⟩ := cCounted (FP.f2i r).toInt64 H
    rw [cnt_i (f2i_in g).1] at e1 e2
    simp only [gfF, ckT, t1, hx, if_true, Option.bind_some, bd2, e1]
    exact ⟨h1, rfl, e2, e3.up (by simp)⟩
  · rw [show sw 7 = 6 from rfl, if_neg (by decide), if_neg (by decide), if_neg (by decide), if_neg (by decide), if_neg (by decide), if_pos rfl]
    exact ⟨h, rfl, H, FI.rf _ _⟩
  · rw [show sw 8 = 7 from rfl, if_neg (by decide), if_neg (by decide), if_neg (by decide), if_neg (by decide), if_neg (by decide), if_neg (by decide), if_pos rfl]
    obtain ⟨h1, e1, e2, e3⟩ := cCounted (r.toInt32 / 4096).toInt64 H
    have hb : inI (r.toInt32 / 4096) := inI_div (k := 4096) (.inr (by decide)) (.inl (by decide))
    rw [cnt_i hb] at e1 e2
    simp only [gfF, ckT, dvI, t1, hx, z4, if_true, if_false, Option.bind_some, bd2, hbi, e1]
    exact ⟨h1, rfl, e2, e3.up (by simp)⟩
  · rw [show sw 9 = 11 from rfl, if_neg (by decide), if_neg (by decide), if_neg (by decide), if_neg (by decide), if_neg (by decide), if_neg (by decide), if_neg (by decide)]
    exact ⟨h, rfl, H, FI.rf _ _⟩
  · rw [show sw 10 = 12 from rfl, if_neg (by decide), if_neg (by decide), if_neg (by decide), if_neg (by decide), if_neg (by decide), if_neg (by decide), if_neg (by decide)]
    exact ⟨h, rfl, H, FI.rf _ _⟩
  · rw [show sw 11 = 13 from rfl, if_neg (by decide), if_neg (by decide), if_neg (by decide), if_neg (by decide), if_neg (by decide), if_neg (by decide), if_neg (by decide)]
    exact ⟨h, rfl, H, FI.rf _ _⟩
  · rw [show sw 12 = 14 from rfl, if_neg (by decide), if_neg (by decide), if_neg (by decide), if_neg (by decide), if_neg (by decide), if_neg (by decide), if_neg (by decide)]
    exact ⟨h, rfl, H, FI.rf _ _⟩
  · rw [show sw 13 = 17 from rfl, if_neg (by decide), if_neg (by decide), if_neg (by decide), if_neg (by decide), if_neg (by decide), if_neg (by decide), if_neg (by decide)]
    exact ⟨h, rfl, H, FI.rf _ _⟩
  · rw [show sw 14 = 10 from rfl, if_neg (by decide), if_neg (by decide), if_neg (by decide), if_neg (by decide), if_neg (by decide), if_neg (by decide), if_neg (by decide)]
    exact ⟨h, rfl, H, FI.rf _ _⟩
  · rw [show sw 15 = 1 from rfl, if_pos rfl]
    have nn : Jvm.FP.Core.fIsNaN (FP.fadd r (FP.i2f (iN m))) = false := Jvm.FP.Core.fadd_out hf.notNaN (Jvm.FP.Core.i2f_fin _)
    obtain ⟨h1, e1, e2, e3⟩ := cReal (FP.fadd r (FP.i2f (iN m))) H.1
    simp only [gfF, ckT, t1, hx, if_true, Option.bind_some, fnn_ok nn, e1]
    exact ⟨h1, rfl, e2, e3.up (by simp)⟩
  · rw [show sw 16 = 2 from rfl, if_neg (by decide), if_pos rfl]
    have nn : Jvm.FP.Core.fIsNaN (FP.fmul r (FP.i2f (iN m))) = false := Jvm.FP.Core.fmul_out hf (Jvm.FP.Core.i2f_fin _)
    obtain ⟨h1, e1, e2, e3⟩ := cReal (FP.fmul r (FP.i2f (iN m))) H.1
    simp only [gfF, ckT, t1, hx, if_true, Option.bind_some, fnn_ok nn, e1]
    exact ⟨h1, rfl, e2, e3.up (by simp)⟩
/-- the row of a TEXT or LIST told anew -/
theorem CV.row {h : hp} {a b s n : Nat} {g : Nat → Int32} (H : VO h a b) (h0 : hI h a 0 = iN s) (h3 : hI h a 3 = iN n) (hs : s ≤ 4) (hs3 : 3 ≤ s) (hn : n ≤ 16) : CV (sI h b g) a b (vL s n g) :=
  ⟨H, by rw [hI_sI, if_neg H.2.2.2]; exact h0, hs, fun e => absurd e (by show ¬ s = 1; omega), fun e => absurd e (by show ¬ s = 2; omega), fun _ => ⟨by rw [hI_sI, if_neg H.2.2.2]; exact h3, hn, fun k _ => by rw [hI_sI, if_pos rfl]; rfl⟩⟩
theorem CV.ext {h : hp} {a b s n : Nat} {f g : Nat → Int32} (H : CV h a b (vL s n f)) (e : ∀ k, k < n → f k = g k) : CV h a b (vL s n g) :=
  ⟨H.1, H.2.1, H.2.2.1, H.2.2.2.1, H.2.2.2.2.1, fun hv => ⟨(H.2.2.2.2.2 hv).1, (H.2.2.2.2.2 hv).2.1, fun k hk => ((H.2.2.2.2.2 hv).2.2 k hk).trans (e k hk)⟩⟩
theorem CV.cut {h : hp} {a b s n p : Nat} {x : Int32} {r : UInt32} {f : Nat → Int32} (H : CV h a b (s, x, r, n, f)) (hs3 : 3 ≤ s) (hp : p ≤ n) : CV (pI h a 3 (iN p)) a b (vL s p f) := by
  obtain ⟨h1, h2, h3⟩ := H.2.2.2.2.2 hs3
  have ne := H.1.2.2.2
  refine ⟨H.1, by rw [hI_pI, if_neg (by simp)]; exact H.2.1, H.2.2.1, fun e => absurd e (by show ¬ s = 1; omega), fun e => absurd e (by show ¬ s = 2; omega), fun _ => ⟨by rw [hI_pI, if_pos ⟨rfl, rfl⟩]; rfl, Nat.le_trans hp h2, fun k hk => ?_⟩⟩
  rw [hI_pI, if_neg (by rintro ⟨q, -⟩; exact ne q.symm)]
  exact h3 k (Nat.lt_of_lt_of_le hk hp)
theorem cMin (x y : Nat) (hx : x < 2147483648) (hy : y < 2147483648) (h : hp) : fJ9_min_7cf53 (iN x) (iN y) h = some (iN (min x y), h) := by
  unfold fJ9_min_7cf53
  by_cases c : y < x
  · rw [if_pos (by rw [i_lt hy hx]; exact c), Nat.min_eq_right (by omega)]
  · rw [if_neg (by rw [i_lt hy hx]; exact c), Nat.min_eq_left (by omega)]
theorem cMax (x y : Nat) (hx : x < 2147483648) (hy : y < 2147483648) (h : hp) : fJ9_max_7cf53 (iN x) (iN y) h = some (iN (max x y), h) := by
  unfold fJ9_max_7cf53
  by_cases c : x < y
  · rw [if_pos (by rw [i_lt hx hy]; exact c), Nat.max_eq_right (by omega)]
  · rw [if_neg (by rw [i_lt hx hy]; exact c), Nat.max_eq_left (by omega)]
theorem cFIt3 {h : hp} {a b m q : Nat} {x : Int32} {r : UInt32} {n : Nat} {f : Nat → Int32} (H : CV h a b (3, x, r, n, f)) (hm : m < 2147483648) (hq : q < 17) (hq2 : q = 2 ∨ q = 3 ∨ q = 13 ∨ fltS q (iN m) (3, x, r, n, f) = (2, (3, x, r, n, f)) ∧ sw q ≠ 15 ∧ sw q ≠ 16 ∧ sw q ≠ 17) : ∃ h', fX11_filterItems a (fa q) (iN m) h = some (iN (fltS q (iN m) (3, x, r, n, f)).1, h') ∧ CV h' a b (fltS q (iN m) (3, x, r, n, f)).2 ∧ FI [a, b] h h' := by
  obtain ⟨t1, t2, r1, ne⟩ := id H.1
  obtain ⟨hs, hn, hf⟩ := H.2.2.2.2.2 (by show 3 ≤ 3; decide)
  replace hs : hI h a 3 = iN n := hs
  replace hn : n ≤ 16 := hn
  replace hf : ∀ k, k < n → hI h b k = f k := hf
  obtain ⟨k1, k2, k3, -⟩ := fa_ok q (by omega)
  simp only [fX11_filterItems, k1, k2, k3, Option.bind_some]
  rcases hq2 with rfl | rfl | rfl | ⟨hq2, hs1, hs2, hs3⟩
  · rw [show sw 2 = 15 from rfl, if_pos rfl]
    have e := cRev_l H.1 hs hn (n / 2) 0 FU (hI h b) (by omega) (by show n / 2 < 1000000; omega)
    rw [sI_self] at e
    rw [show fX11_filterItems_l38 FU a 0 h = _ from e]
    refine ⟨_, rfl, (CV.row (s := 3) H.1 H.2.1 hs (by decide) (by decide) hn).ext fun k hk => ?_, FI.sI .. |>.up (by simp)⟩
    rw [if_pos (by omega)]
    exact hf _ (by omega)
  · rw [show sw 3 = 16 from rfl, if_neg (by decide), if_pos rfl]
    obtain ⟨h1, e1, e2, e3⟩ := cInt (iN n) H.1
    simp only [gfI, ckT, t1, hs, if_true, Option.bind_some, e1]
    exact ⟨h1, rfl, e2, e3.up (by simp)⟩
  · rw [show sw 13 = 17 from rfl, if_neg (by decide), if_neg (by decide), if_pos rfl]
    simp only [gfI, ckT, t1, hs, if_true, Option.bind_some, bd2, cMin n m (by omega) hm, vResize H.1 (show min n m < 2147483648 by omega)]
    refine ⟨_, rfl, ?_, FI.pI .. |>.up (by simp)⟩
    rw [show fltS 13 (iN m) (3, x, r, n, f) = (0, vL 3 (min n (iN m).toNatClampNeg) f) from rfl, i_clamp hm, show min (min n m) 16 = min n m by omega]
    exact CV.cut H (by decide) (by omega)
  · rw [hq2, if_neg hs1, if_neg hs2, if_neg hs3]
    exact ⟨h, rfl, H, FI.rf _ _⟩
theorem cFIt4 {h : hp} {a b m q : Nat} {x : Int32} {r : UInt32} {n : Nat} {f : Nat → Int32} (H : CV h a b (4, x, r, n, f)) (hm : m < 2147483648) (hq : q < 17) (hq2 : q = 2 ∨ q = 3 ∨ q = 13 ∨ fltS q (iN m) (4, x, r, n, f) = (2, (4, x, r, n, f)) ∧ sw q ≠ 15 ∧ sw q ≠ 16 ∧ sw q ≠ 17) : ∃ h', fX11_filterItems a (fa q) (iN m) h = some (iN (fltS q (iN m) (4, x, r, n, f)).1, h') ∧ CV h' a b (fltS q (iN m) (4, x, r, n, f)).2 ∧ FI [a, b] h h' := by
  obtain ⟨t1, t2, r1, ne⟩ := id H.1
  obtain ⟨hs, hn, hf⟩ := H.2.2.2.2.2 (by show 3 ≤ 4; decide)
  replace hs : hI h a 3 = iN n := hs
  replace hn : n ≤ 16 := hn
  replace hf : ∀ k, k < n → hI h b k = f k := hf
  obtain ⟨k1, k2, k3, -⟩ := fa_ok q (by omega)
  simp only [fX11_filterItems, k1, k2, k3, Option.bind_some]
  rcases hq2 with rfl | rfl | rfl | ⟨hq2, hs1, hs2, hs3⟩
  · rw [show sw 2 = 15 from rfl, if_pos rfl]
    have e := cRev_l H.1 hs hn (n / 2) 0 FU (hI h b) (by omega) (by show n / 2 < 1000000; omega)
    rw [sI_self] at e
    rw [show fX11_filterItems_l38 FU a 0 h = _ from e]
    refine ⟨_, rfl, (CV.row (s := 4) H.1 H.2.1 hs (by decide) (by decide) hn).ext fun k hk => ?_, FI.sI .. |>.up (by simp)⟩
    rw [if_pos (by omega)]
    exact hf _ (by omega)
  · rw [show sw 3 = 16 from rfl, if_neg (by decide), if_pos rfl]
    obtain ⟨h1, e1, e2, e3⟩ := cInt (iN n) H.1
    simp only [gfI, ckT, t1, hs, if_true, Option.bind_some, e1]
    exact ⟨h1, rfl, e2, e3.up (by simp)⟩
  · rw [show sw 13 = 17 from rfl, if_neg (by decide), if_neg (by decide), if_pos rfl]
    simp only [gfI, ckT, t1, hs, if_true, Option.bind_some, bd2, cMin n m (by omega) hm, vResize H.1 (show min n m < 2147483648 by omega)]
    refine ⟨_, rfl, ?_, FI.pI .. |>.up (by simp)⟩
    rw [show fltS 13 (iN m) (4, x, r, n, f) = (0, vL 4 (min n (iN m).toNatClampNeg) f) from rfl, i_clamp hm, show min (min n m) 16 = min n m by omega]
    exact CV.cut H (by decide) (by omega)
  · rw [hq2, if_neg hs1, if_neg hs2, if_neg hs3]
    exact ⟨h, rfl, H, FI.rf _ _⟩
theorem cFT {h : hp} {a b m q : Nat} {x : Int32} {r : UInt32} {n : Nat} {f : Nat → Int32} (H : CV h a b (3, x, r, n, f)) (hm : m < 2147483648) (hq : q < 17) : ∃ h', fX11_filterText a (fa q) (iN m) h = some (iN (fltS q (iN m) (3, x, r, n, f)).1, h') ∧ CV h' a b (fltS q (iN m) (3, x, r, n, f)).2 ∧ FI [a, b] h h' := by
  obtain ⟨t1, t2, r1, ne⟩ := id H.1
  obtain ⟨hs, hn, hf⟩ := H.2.2.2.2.2 (by show 3 ≤ 3; decide)
  replace hs : hI h a 3 = iN n := hs
  replace hn : n ≤ 16 := hn
  replace hf : ∀ k, k < n → hI h b k = f k := hf
  have fgc : ∀ (d k : Nat) (acc : Int32), k + d = n → fgF (hI h b) d k acc = fgF f d k acc := by
    intro d
    induction d with
    | zero => intro k acc _; rfl
    | succ d ih => intro k acc hk; simp only [fgF]; rw [hf k (by omega), ih (k + 1) _ (by omega)]
  obtain ⟨k1, k2, k3, -⟩ := fa_ok q (by omega)
  simp only [fX11_filterText, k1, k2, k3, Option.bind_some]
  have hqs : q = 0 ∨ q = 1 ∨ q = 2 ∨ q = 3 ∨ q = 4 ∨ q = 5 ∨ q = 6 ∨ q = 7 ∨ q = 8 ∨ q = 9 ∨ q = 10 ∨ q = 11 ∨ q = 12 ∨ q = 13 ∨ q = 14 ∨ q = 15 ∨ q = 16 := by omega
  rcases hqs with rfl | rfl | rfl | rfl | rfl | rfl | rfl | rfl | rfl | rfl | rfl | rfl | rfl | rfl | rfl | rfl | rfl
  · rw [show sw 0 = 8 from rfl, if_neg (by decide), if_pos rfl]
    have e := cUp_l H.1 hs hn n 0 FU (hI h b) (by omega) (by show n < 1000000; omega)
    rw [sI_self] at e
    rw [show fX11_filterText_l58 FU a 0 h = _ from e]
    refine ⟨_, rfl, (CV.row (s := 3) H.1 H.2.1 hs (by decide) (by decide) hn).ext fun k hk => ?_, FI.sI .. |>.up (by simp)⟩
    rw [if_pos (by omega), hf k hk]
  · rw [show sw 1 = 9 from rfl, if_neg (by decide), if_neg (by decide), if_pos rfl]
    have e := cLo_l H.1 hs hn n 0 FU (hI h b) (by omega) (by show n < 1000000; omega)
    rw [sI_self] at e
    rw [show fX11_filterText_l103 FU a 0 h = _ from e]
    refine ⟨_, rfl, (CV.row (s := 3) H.1 H.2.1 hs (by decide) (by decide) hn).ext fun k hk => ?_, FI.sI .. |>.up (by simp)⟩
    rw [if_pos (by omega), hf k hk]
  · rw [show sw 2 = 15 from rfl, if_neg (by decide), if_neg (by decide), if_neg (by decide), if_neg (by decide), if_neg (by decide), if_neg (by decide)]
    obtain ⟨h1, e1, e2, e3⟩ := cFIt3 (q := 2) H hm (by decide) (by simp)
    simp only [ckT, t1, if_true, Option.bind_some, bd2, e1]
    exact ⟨h1, rfl, e2, e3⟩
  · rw [show sw 3 = 16 from rfl, if_neg (by decide), if_neg (by decide), if_neg (by decide), if_neg (by decide), if_neg (by decide), if_neg (by decide)]
    obtain ⟨h1, e1, e2, e3⟩ := cFIt3 (q := 3) H hm (by decide) (by simp)
    simp only [ckT, t1, if_true, Option.bind_some, bd2, e1]
    exact ⟨h1, rfl, e2, e3⟩
  · rw [show sw 4 = 3 from rfl, if_neg (by decide), if_neg (by decide), if_neg (by decide), if_neg (by decide), if_neg (by decide), if_neg (by decide)]
    obtain ⟨h1, e1, e2, e3⟩ := cFIt3 (q := 4) H hm (by decide) (.inr (.inr (.inr ⟨rfl, by decide, by decide, by decide⟩)))
    simp only [ckT, t1, if_true, Option.bind_some, bd2, e1]
    exact ⟨h1, rfl, e2, e3⟩
  · rw [show sw 5 = 4 from rfl, if_neg (by decide), if_neg (by decide), if_neg (by decide), if_neg (by decide), if_neg (by decide), if_neg (by decide)]
    obtain ⟨h1, e1, e2, e3⟩ := cFIt3 (q := 5) H hm (by decide) (.inr (.inr (.inr ⟨rfl, by decide, by decide, by decide⟩)))
    simp only [ckT, t1, if_true, Option.bind_some, bd2, e1]
    exact ⟨h1, rfl, e2, e3⟩
  · rw [show sw 6 = 5 from rfl, if_pos rfl]
    have e := cFig_l H.1 hs hn n 0 FU 0 (by omega) (by show n < 1000000; omega)
    rw [fgc n 0 0 (by omega)] at e
    have fi : ∀ (d k : Nat) (acc : Int32), 0 ≤ acc.toInt → acc.toInt + d ≤ 1000000 → 0 ≤ (fgF f d k acc).toInt ∧ (fgF f d k acc).toInt ≤ acc.toInt + d := by
      intro d
      induction d with
      | zero => intro k acc h1 h2; simp only [fgF]; omega
      | succ d ih =>
        intro k acc h1 h2
        simp only [fgF]
        by_cases c : 48 ≤ f k ∧ f k ≤ 57
        · rw [if_pos c]
          have e1 : (acc + 1).toInt = acc.toInt + 1 := Jvm.Kit.i32_add (by rw [show (1 : Int32).toInt = 1 by decide]; omega) (by rw [show (1 : Int32).toInt = 1 by decide]; omega)
          have := ih (k + 1) (acc + 1) (by omega) (by omega)
          omega
        · rw [if_neg c]
          have := ih (k + 1) acc (by omega) (by omega)
          omega
    have fin := fi n 0 0 (by decide) (by rw [show (0 : Int32).toInt = 0 by decide]; omega)
    rw [show (0 : Int32).toInt = 0 by decide] at fin
    obtain ⟨h1, e1, e2, e3⟩ := cCounted (fgF f n 0 0).toInt64 H
    rw [cnt_i (show inI _ from ⟨by omega, by omega⟩)] at e1 e2
    simp only [ckT, t1, if_true, Option.bind_some, bd2, fX11_countFigures, show fX11_countFigures_l4 FU a 0 0 h = _ from e, e1]
    exact ⟨h1, rfl, e2, e3.up (by simp)⟩
  · rw [show sw 7 = 6 from rfl, if_neg (by decide), if_neg (by decide), if_neg (by decide), if_neg (by decide), if_neg (by decide), if_neg (by decide)]
    obtain ⟨h1, e1, e2, e3⟩ := cFIt3 (q := 7) H hm (by decide) (.inr (.inr (.inr ⟨rfl, by decide, by decide, by decide⟩)))
    simp only [ckT, t1, if_true, Option.bind_some, bd2, e1]
    exact ⟨h1, rfl, e2, e3⟩
  · rw [show sw 8 = 7 from rfl, if_neg (by decide), if_neg (by decide), if_neg (by decide), if_neg (by decide), if_neg (by decide), if_neg (by decide)]
    obtain ⟨h1, e1, e2, e3⟩ := cFIt3 (q := 8) H hm (by decide) (.inr (.inr (.inr ⟨rfl, by decide, by decide, by decide⟩)))
    simp only [ckT, t1, if_true, Option.bind_some, bd2, e1]
    exact ⟨h1, rfl, e2, e3⟩
  · rw [show sw 9 = 11 from rfl, if_neg (by decide), if_neg (by decide), if_neg (by decide), if_neg (by decide), if_pos rfl]
    simp only [gfI, ckT, t1, hs, if_true, Option.bind_some, bd2, show fJ9_min_7cf53 (iN n) 1 h = _ from cMin n 1 (by omega) (by decide) h, vResize H.1 (show min n 1 < 2147483648 by omega)]
    refine ⟨_, rfl, ?_, FI.pI .. |>.up (by simp)⟩
    rw [show fltS 9 (iN m) (3, x, r, n, f) = (0, vL 3 (min n 1) f) from rfl, show min (min n 1) 16 = min n 1 by omega]
    exact CV.cut H (by decide) (by omega)
  · rw [show sw 10 = 12 from rfl, if_neg (by decide), if_neg (by decide), if_neg (by decide), if_neg (by decide), if_neg (by decide), if_pos rfl]
    rw [show fltS 10 (iN m) (3, x, r, n, f) = (0, vL 3 (min n 1) (fun _ => f (n - 1))) from rfl]
    by_cases c0 : n = 0
    · subst c0
      have z : iN 0 ≤ 0 := by decide
      simp only [gfI, ckT, t1, hs, z, jn, if_true, Option.bind_some, bd2, show fJ9_min_7cf53 (iN 0) 1 h = _ from cMin 0 1 (by omega) (by decide) h, vResize H.1 (show min 0 1 < 2147483648 by omega)]
      refine ⟨_, rfl, ?_, FI.pI .. |>.up (by simp)⟩
      exact (CV.cut (p := 0) H (by decide) (by omega)).ext fun k hk => absurd hk (by omega)
    · have z : ¬ (iN n ≤ 0) := by rw [i_le_lit (by omega) (by omega)]; omega
      have at1 : fX11_at a (iN n - 1) h = some (f (n - 1), h) := by rw [i_sub1 (by omega), vAt H.1 hs hn (by omega), hf _ (by omega)]
      have pt1 : fX11_put a 0 (f (n - 1)) h = some (pI h b 0 (f (n - 1))) := vPut (k := 0) H.1 hs hn (by omega)
      have hs2 : hI (pI h b 0 (f (n - 1))) a 3 = iN n := by rw [hI_pI, if_neg (by rintro ⟨q, -⟩; exact ne q)]; exact hs
      simp only [gfI, ckT, t1, hs, z, jn, if_true, if_false, Option.bind_some, bd2, at1, pt1, hT_pI, hs2, show ∀ h, fJ9_min_7cf53 (iN n) 1 h = _ from fun h => cMin n 1 (by omega) (by decide) h]
      rw [vResize (h := pI h b 0 (f (n - 1))) H.1 (show min n 1 < 2147483648 by omega)]
      simp only [Option.bind_some]
      refine ⟨_, rfl, ?_, (FI.tr (FI.pI h b 0 _) (FI.pI _ a 3 _) (by simp) (by simp))⟩
      rw [show min (min n 1) 16 = 1 by omega, show min n 1 = 1 by omega]
      refine ⟨H.1, ?_, by show 3 ≤ 4; decide, fun e => absurd e (by show ¬ 3 = 1; decide), fun e => absurd e (by show ¬ 3 = 2; decide), fun _ => ⟨by rw [hI_pI, if_pos ⟨rfl, rfl⟩]; rfl, by show 1 ≤ 16; decide, fun k hk => ?_⟩⟩
      · rw [hI_pI, if_neg (by simp), hI_pI, if_neg (by rintro ⟨q, -⟩; exact ne q)]; exact H.2.1
      · have hk0 : k = 0 := by have : k < 1 := hk; omega
        subst hk0
        rw [hI_pI, if_neg (by rintro ⟨q, -⟩; exact ne q.symm), hI_pI, if_pos ⟨rfl, rfl⟩]; rfl
  · rw [show sw 11 = 13 from rfl, if_neg (by decide), if_neg (by decide), if_neg (by decide), if_neg (by decide), if_neg (by decide), if_neg (by decide)]
    obtain ⟨h1, e1, e2, e3⟩ := cFIt3 (q := 11) H hm (by decide) (.inr (.inr (.inr ⟨rfl, by decide, by decide, by decide⟩)))
    simp only [ckT, t1, if_true, Option.bind_some, bd2, e1]
    exact ⟨h1, rfl, e2, e3⟩
  · rw [show sw 12 = 14 from rfl, if_neg (by decide), if_neg (by decide), if_neg (by decide), if_neg (by decide), if_neg (by decide), if_neg (by decide)]
    obtain ⟨h1, e1, e2, e3⟩ := cFIt3 (q := 12) H hm (by decide) (.inr (.inr (.inr ⟨rfl, by decide, by decide, by decide⟩)))
    simp only [ckT, t1, if_true, Option.bind_some, bd2, e1]
    exact ⟨h1, rfl, e2, e3⟩
  · rw [show sw 13 = 17 from rfl, if_neg (by decide), if_neg (by decide), if_neg (by decide), if_neg (by decide), if_neg (by decide), if_neg (by decide)]
    obtain ⟨h1, e1, e2, e3⟩ := cFIt3 (q := 13) H hm (by decide) (by simp)
    simp only [ckT, t1, if_true, Option.bind_some, bd2, e1]
    exact ⟨h1, rfl, e2, e3⟩
  · rw [show sw 14 = 10 from rfl, if_neg (by decide), if_neg (by decide), if_neg (by decide), if_pos rfl]
    have hs2 : hI (pI h a 3 (iN (min (max n m) 16))) a 3 = iN (min (max n m) 16) := by rw [hI_pI, if_pos ⟨rfl, rfl⟩]
    have e := cPad_l (h := pI h a 3 (iN (min (max n m) 16))) H.1 hs2 (by omega) (min (max n m) 16 - n) n FU (hI h b) (by omega) (by show _ < 1000000; omega)
    rw [show sI (pI h a 3 (iN (min (max n m) 16))) b (hI h b) = pI h a 3 (iN (min (max n m) 16)) from (sI_congr _ b fun j => by rw [hI_pI, if_neg (by rintro ⟨q, -⟩; exact ne q.symm)]).trans (sI_self _ b)] at e
    simp only [fX11_padTo, gfI, ckT, t1, hT_pI, hs, if_true, Option.bind_some, bd2, cMax n m (by omega) hm, vResize H.1 (show max n m < 2147483648 by omega), e]
    refine ⟨_, rfl, ?_, (FI.tr (FI.pI h a 3 _) (FI.sI _ b _) (by simp) (by simp))⟩
    rw [show fltS 14 (iN m) (3, x, r, n, f) = (0, vL 3 (max n (min (iN m).toNatClampNeg 16)) (fun k => if k < n then f k else 32)) from rfl, i_clamp hm, show max n (min m 16) = min (max n m) 16 by omega]
    refine (CV.row (s := 3) (h := pI h a 3 (iN (min (max n m) 16))) H.1 (by rw [hI_pI, if_neg (by simp)]; exact H.2.1) hs2 (by decide) (by decide) (by omega)).ext fun k hk => ?_
    by_cases c : k < n
    · rw [if_neg (by omega), if_pos c, hf k c]
    · rw [if_pos (by omega), if_neg c]
  · rw [show sw 15 = 1 from rfl, if_neg (by decide), if_neg (by decide), if_neg (by decide), if_neg (by decide), if_neg (by decide), if_neg (by decide)]
    obtain ⟨h1, e1, e2, e3⟩ := cFIt3 (q := 15) H hm (by decide) (.inr (.inr (.inr ⟨rfl, by decide, by decide, by decide⟩)))
    simp only [ckT, t1, if_true, Option.bind_some, bd2, e1]
    exact ⟨h1, rfl, e2, e3⟩
  · rw [show sw 16 = 2 from rfl, if_neg (by decide), if_neg (by decide), if_neg (by decide), if_neg (by decide), if_neg (by decide), if_neg (by decide)]
    obtain ⟨h1, e1, e2, e3⟩ := cFIt3 (q := 16) H hm (by decide) (.inr (.inr (.inr ⟨rfl, by decide, by decide, by decide⟩)))
    simp only [ckT, t1, if_true, Option.bind_some, bd2, e1]
    exact ⟨h1, rfl, e2, e3⟩
theorem shF_congr (n : Nat) (v : Int32) : ∀ (j : Nat) (p q : Nat → Int32), j < n → (∀ k, k < n → p k = q k) → ∀ k, k < n → shF v j p k = shF v j q k := by
  intro j
  induction j with
  | zero => intro p q _ h k hk; simp only [shF]; by_cases c : k = 0 <;> simp [c, h k hk]
  | succ j ih =>
    intro p q hj h k hk
    simp only [shF]
    rw [h j (by omega)]
    by_cases c : q j ≤ v
    · simp only [c, if_true]; by_cases ck : k = j + 1 <;> simp [ck, h k hk]
    · simp only [c, if_false]
      exact ih _ _ (by omega) (fun i hi => by by_cases ci : i = j + 1 <;> simp [ci, h i hi]) k hk
theorem soF_congr (n : Nat) : ∀ (d a : Nat) (p q : Nat → Int32), a + d ≤ max n 1 → (∀ k, k < n → p k = q k) → ∀ k, k < n → soF d a p k = soF d a q k := by
  intro d
  induction d with
  | zero => intro a p q _ h k hk; exact h k hk
  | succ d ih =>
    intro a p q ha h k hk
    simp only [soF]
    have ha2 : a < n := by omega
    rw [h a ha2]
    exact ih (a + 1) _ _ (by omega) (shF_congr n _ a p q ha2 h) k hk
theorem cFL {h : hp} {a b m q : Nat} {x : Int32} {r : UInt32} {n : Nat} {f : Nat → Int32} (H : CV h a b (4, x, r, n, f)) (hm : m < 2147483648) (hq : q < 17) : ∃ h', fX11_filterList a (fa q) (iN m) h = some (iN (fltS q (iN m) (4, x, r, n, f)).1, h') ∧ CV h' a b (fltS q (iN m) (4, x, r, n, f)).2 ∧ FI [a, b] h h' := by
  obtain ⟨t1, t2, r1, ne⟩ := id H.1
  obtain ⟨hs, hn, hf⟩ := H.2.2.2.2.2 (by show 3 ≤ 4; decide)
  replace hs : hI h a 3 = iN n := hs
  replace hn : n ≤ 16 := hn
  replace hf : ∀ k, k < n → hI h b k = f k := hf
  have suc : ∀ (d k : Nat) (acc : Int64), k + d = n → suF (hI h b) d k acc = suF f d k acc := by
    intro d
    induction d with
    | zero => intro k acc _; rfl
    | succ d ih => intro k acc hk; simp only [suF]; rw [hf k (by omega), ih (k + 1) _ (by omega)]
  have z1 : ¬ ((1 : Int32) = 0) := by decide
  obtain ⟨k1, k2, k3, -⟩ := fa_ok q (by omega)
  simp only [fX11_filterList, k1, k2, k3, Option.bind_some]
  have hqs : q = 0 ∨ q = 1 ∨ q = 2 ∨ q = 3 ∨ q = 4 ∨ q = 5 ∨ q = 6 ∨ q = 7 ∨ q = 8 ∨ q = 9 ∨ q = 10 ∨ q = 11 ∨ q = 12 ∨ q = 13 ∨ q = 14 ∨ q = 15 ∨ q = 16 := by omega
  rcases hqs with rfl | rfl | rfl | rfl | rfl | rfl | rfl | rfl | rfl | rfl | rfl | rfl | rfl | rfl | rfl | rfl | rfl
  · rw [show sw 0 = 8 from rfl, if_neg (by decide), if_neg (by decide), if_neg (by decide), if_neg (by decide)]
    obtain ⟨h1, e1, e2, e3⟩ := cFIt4 (q := 0) H hm (by decide) (.inr (.inr (.inr ⟨rfl, by decide, by decide, by decide⟩)))
    simp only [ckT, t1, if_true, Option.bind_some, bd2, e1]
    exact ⟨h1, rfl, e2, e3⟩
  · rw [show sw 1 = 9 from rfl, if_neg (by decide), if_neg (by decide), if_neg (by decide), if_neg (by decide)]
    obtain ⟨h1, e1, e2, e3⟩ := cFIt4 (q := 1) H hm (by decide) (.inr (.inr (.inr ⟨rfl, by decide, by decide, by decide⟩)))
    simp only [ckT, t1, if_true, Option.bind_some, bd2, e1]
    exact ⟨h1, rfl, e2, e3⟩
  · rw [show sw 2 = 15 from rfl, if_neg (by decide), if_neg (by decide), if_neg (by decide), if_neg (by decide)]
    obtain ⟨h1, e1, e2, e3⟩ := cFIt4 (q := 2) H hm (by decide) (by simp)
    simp only [ckT, t1, if_true, Option.bind_some, bd2, e1]
    exact ⟨h1, rfl, e2, e3⟩
  · rw [show sw 3 = 16 from rfl, if_neg (by decide), if_neg (by decide), if_neg (by decide), if_neg (by decide)]
    obtain ⟨h1, e1, e2, e3⟩ := cFIt4 (q := 3) H hm (by decide) (by simp)
    simp only [ckT, t1, if_true, Option.bind_some, bd2, e1]
    exact ⟨h1, rfl, e2, e3⟩
  · rw [show sw 4 = 3 from rfl, if_neg (by decide), if_neg (by decide), if_neg (by decide), if_neg (by decide)]
    obtain ⟨h1, e1, e2, e3⟩ := cFIt4 (q := 4) H hm (by decide) (.inr (.inr (.inr ⟨rfl, by decide, by decide, by decide⟩)))
    simp only [ckT, t1, if_true, Option.bind_some, bd2, e1]
    exact ⟨h1, rfl, e2, e3⟩
  · rw [show sw 5 = 4 from rfl, if_neg (by decide), if_neg (by decide), if_neg (by decide), if_neg (by decide)]
    obtain ⟨h1, e1, e2, e3⟩ := cFIt4 (q := 5) H hm (by decide) (.inr (.inr (.inr ⟨rfl, by decide, by decide, by decide⟩)))
    simp only [ckT, t1, if_true, Option.bind_some, bd2, e1]
    exact ⟨h1, rfl, e2, e3⟩
  · rw [show sw 6 = 5 from rfl, if_neg (by decide), if_neg (by decide), if_neg (by decide), if_neg (by decide)]
    obtain ⟨h1, e1, e2, e3⟩ := cFIt4 (q := 6) H hm (by decide) (.inr (.inr (.inr ⟨rfl, by decide, by decide, by decide⟩)))
    simp only [ckT, t1, if_true, Option.bind_some, bd2, e1]
    exact ⟨h1, rfl, e2, e3⟩
  · rw [show sw 7 = 6 from rfl, if_neg (by decide), if_neg (by decide), if_neg (by decide), if_neg (by decide)]
    obtain ⟨h1, e1, e2, e3⟩ := cFIt4 (q := 7) H hm (by decide) (.inr (.inr (.inr ⟨rfl, by decide, by decide, by decide⟩)))
    simp only [ckT, t1, if_true, Option.bind_some, bd2, e1]
    exact ⟨h1, rfl, e2, e3⟩
  · rw [show sw 8 = 7 from rfl, if_neg (by decide), if_neg (by decide), if_neg (by decide), if_neg (by decide)]
    obtain ⟨h1, e1, e2, e3⟩ := cFIt4 (q := 8) H hm (by decide) (.inr (.inr (.inr ⟨rfl, by decide, by decide, by decide⟩)))
    simp only [ckT, t1, if_true, Option.bind_some, bd2, e1]
    exact ⟨h1, rfl, e2, e3⟩
  · rw [show sw 9 = 11 from rfl, if_pos rfl]
    rw [show fltS 9 (iN m) (4, x, r, n, f) = (0, if n = 0 then vN else vI (f (0))) from rfl]
    by_cases c0 : n = 0
    · subst c0
      obtain ⟨h1, e1, e2, e3⟩ := cNothing H.1
      have at1 : fX11_at a (0) h = some (0, h) := by
        have z : iN 0 ≤ 0 := by decide
        have z0 : iN 0 - 1 < 0 := by decide
        have z1 : ¬ ((0 : Int32) < 0) := by decide
        simp [fX11_at, gfI, t1, hs, z, z0, z1]
      have am : fX13_among (0) (iN 0) h = some (0, h) := by
        have z : iN 0 ≤ 0 := by decide
        have z0 : iN 0 - 1 < 0 := by decide
        simp [fX13_among, z, z0]
      simp only [fX11_becomeItem, gfI, ckT, t1, hs, if_true, Option.bind_some, bd2, at1, am, e1]
      exact ⟨h1, rfl, e2, e3.up (by simp)⟩
    · obtain ⟨h1, e1, e2, e3⟩ := cInt (f (0)) H.1
      have ix : (0 : Int32) = iN (0) := rfl
      have at1 : fX11_at a (iN (0)) h = some (f (0), h) := by rw [vAt H.1 hs hn (by omega), hf _ (by omega)]
      have am : fX13_among (iN (0)) (iN n) h = some (1, h) := by
        unfold fX13_among
        rw [if_neg (by rw [i_lt_lit (by omega) (by omega)]; omega), if_neg (by rw [i_le (by omega) (by omega)]; omega)]
      simp only [fX11_becomeItem, gfI, ckT, t1, hs, if_true, if_false, z1, Option.bind_some, bd2, ix, at1, am, e1, c0]
      exact ⟨h1, rfl, e2, e3.up (by simp)⟩
  · rw [show sw 10 = 12 from rfl, if_neg (by decide), if_pos rfl]
    rw [show fltS 10 (iN m) (4, x, r, n, f) = (0, if n = 0 then vN else vI (f (n - 1))) from rfl]
    by_cases c0 : n = 0
    · subst c0
      obtain ⟨h1, e1, e2, e3⟩ := cNothing H.1
      have at1 : fX11_at a (iN 0 - 1) h = some (0, h) := by
        have z : iN 0 ≤ 0 := by decide
        have z0 : iN 0 - 1 < 0 := by decide
        have z1 : ¬ ((0 : Int32) < 0) := by decide
        simp [fX11_at, gfI, t1, hs, z, z0, z1]
      have am : fX13_among (iN 0 - 1) (iN 0) h = some (0, h) := by
        have z : iN 0 ≤ 0 := by decide
        have z0 : iN 0 - 1 < 0 := by decide
        simp [fX13_among, z, z0]
      simp only [fX11_becomeItem, gfI, ckT, t1, hs, if_true, Option.bind_some, bd2, at1, am, e1]
      exact ⟨h1, rfl, e2, e3.up (by simp)⟩
    · obtain ⟨h1, e1, e2, e3⟩ := cInt (f (n - 1)) H.1
      have ix : (iN n - 1 : Int32) = iN (n - 1) := i_sub1 (by omega)
      have at1 : fX11_at a (iN (n - 1)) h = some (f (n - 1), h) := by rw [vAt H.1 hs hn (by omega), hf _ (by omega)]
      have am : fX13_among (iN (n - 1)) (iN n) h = some (1, h) := by
        unfold fX13_among
        rw [if_neg (by rw [i_lt_lit (by omega) (by omega)]; omega), if_neg (by rw [i_le (by omega) (by omega)]; omega)]
      simp only [fX11_becomeItem, gfI, ckT, t1, hs, if_true, if_false, z1, Option.bind_some, bd2, ix, at1, am, e1, c0]
      exact ⟨h1, rfl, e2, e3.up (by simp)⟩
  · rw [show sw 11 = 13 from rfl, if_neg (by decide), if_neg (by decide), if_pos rfl]
    have e := cSum_l H.1 hs hn n 0 FU 0 (by omega) (by show n < 1000000; omega)
    rw [suc n 0 0 (by omega)] at e
    obtain ⟨h1, e1, e2, e3⟩ := cCounted (suF f n 0 0) H
    simp only [ckT, t1, if_true, Option.bind_some, bd2, fX11_sumOfItems, show fX11_sumOfItems_l4 FU a 0 0 h = _ from e, e1]
    exact ⟨h1, rfl, e2, e3.up (by simp)⟩
  · rw [show sw 12 = 14 from rfl, if_neg (by decide), if_neg (by decide), if_neg (by decide), if_pos rfl]
    have e := cSort_l H.1 hs hn (n - 1) 1 FU (hI h b) (by omega) (by omega) (by show _ < 1000000; omega)
    rw [sI_self] at e
    simp only [ckT, t1, if_true, Option.bind_some, fX11_sortItems, show fX11_sortItems_l2 FU a 1 h = _ from e]
    refine ⟨_, rfl, (CV.row (s := 4) H.1 H.2.1 hs (by decide) (by decide) hn).ext fun k hk => ?_, FI.sI .. |>.up (by simp)⟩
    exact soF_congr n (n - 1) 1 _ _ (by omega) hf k hk
  · rw [show sw 13 = 17 from rfl, if_neg (by decide), if_neg (by decide), if_neg (by decide), if_neg (by decide)]
    obtain ⟨h1, e1, e2, e3⟩ := cFIt4 (q := 13) H hm (by decide) (by simp)
    simp only [ckT, t1, if_true, Option.bind_some, bd2, e1]
    exact ⟨h1, rfl, e2, e3⟩
  · rw [show sw 14 = 10 from rfl, if_neg (by decide), if_neg (by decide), if_neg (by decide), if_neg (by decide)]
    obtain ⟨h1, e1, e2, e3⟩ := cFIt4 (q := 14) H hm (by decide) (.inr (.inr (.inr ⟨rfl, by decide, by decide, by decide⟩)))
    simp only [ckT, t1, if_true, Option.bind_some, bd2, e1]
    exact ⟨h1, rfl, e2, e3⟩
  · rw [show sw 15 = 1 from rfl, if_neg (by decide), if_neg (by decide), if_neg (by decide), if_neg (by decide)]
    obtain ⟨h1, e1, e2, e3⟩ := cFIt4 (q := 15) H hm (by decide) (.inr (.inr (.inr ⟨rfl, by decide, by decide, by decide⟩)))
    simp only [ckT, t1, if_true, Option.bind_some, bd2, e1]
    exact ⟨h1, rfl, e2, e3⟩
  · rw [show sw 16 = 2 from rfl, if_neg (by decide), if_neg (by decide), if_neg (by decide), if_neg (by decide)]
    obtain ⟨h1, e1, e2, e3⟩ := cFIt4 (q := 16) H hm (by decide) (.inr (.inr (.inr ⟨rfl, by decide, by decide, by decide⟩)))
    simp only [ckT, t1, if_true, Option.bind_some, bd2, e1]
    exact ⟨h1, rfl, e2, e3⟩

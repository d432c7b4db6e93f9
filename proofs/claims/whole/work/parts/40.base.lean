/-! base of the pure part: reading behind writing, numbers that are no longer than a list -/
theorem hI_pI (h : hp) (a k : Nat) (v : Int32) (b j : Nat) : hI (pI h a k v) b j = if b = a ∧ j = k then v else hI h b j := rfl
theorem hI_pF (h : hp) (a k : Nat) (v : UInt32) : hI (pF h a k v) = hI h := rfl
theorem hI_pR (h : hp) (a k v : Nat) : hI (pR h a k v) = hI h := rfl
theorem hF_pI (h : hp) (a k : Nat) (v : Int32) : hF (pI h a k v) = hF h := rfl
theorem hF_pF (h : hp) (a k : Nat) (v : UInt32) (b j : Nat) : hF (pF h a k v) b j = if b = a ∧ j = k then v else hF h b j := rfl
theorem hF_pR (h : hp) (a k v : Nat) : hF (pR h a k v) = hF h := rfl
theorem hR_pI (h : hp) (a k : Nat) (v : Int32) : hR (pI h a k v) = hR h := rfl
theorem hR_pF (h : hp) (a k : Nat) (v : UInt32) : hR (pF h a k v) = hR h := rfl
theorem hR_pR (h : hp) (a k v b j : Nat) : hR (pR h a k v) b j = if b = a ∧ j = k then v else hR h b j := rfl
theorem hT_pI (h : hp) (a k : Nat) (v : Int32) : hT (pI h a k v) = hT h := rfl
theorem hT_pF (h : hp) (a k : Nat) (v : UInt32) : hT (pF h a k v) = hT h := rfl
theorem hT_pR (h : hp) (a k v : Nat) : hT (pR h a k v) = hT h := rfl
theorem hN_pI (h : hp) (a k : Nat) (v : Int32) : hN (pI h a k v) = hN h := rfl
theorem hN_pF (h : hp) (a k : Nat) (v : UInt32) : hN (pF h a k v) = hN h := rfl
theorem hN_pR (h : hp) (a k v : Nat) : hN (pR h a k v) = hN h := rfl
theorem hL_pI (h : hp) (a k : Nat) (v : Int32) : hL (pI h a k v) = hL h := rfl
theorem hL_pF (h : hp) (a k : Nat) (v : UInt32) : hL (pF h a k v) = hL h := rfl
theorem hL_pR (h : hp) (a k v : Nat) : hL (pR h a k v) = hL h := rfl
theorem hI_pCI (h : hp) (a0 sp a dp n b j : Nat) : hI (pCI h a0 sp a dp n) b j = if b = a ∧ dp ≤ j ∧ j < dp + n then hI h a0 (sp + (j - dp)) else hI h b j := rfl
theorem hF_pCI (h : hp) (a0 sp a dp n : Nat) : hF (pCI h a0 sp a dp n) = hF h := rfl
theorem hR_pCI (h : hp) (a0 sp a dp n : Nat) : hR (pCI h a0 sp a dp n) = hR h := rfl
theorem hT_pCI (h : hp) (a0 sp a dp n : Nat) : hT (pCI h a0 sp a dp n) = hT h := rfl
theorem hN_pCI (h : hp) (a0 sp a dp n : Nat) : hN (pCI h a0 sp a dp n) = hN h := rfl
theorem hL_pCI (h : hp) (a0 sp a dp n : Nat) : hL (pCI h a0 sp a dp n) = hL h := rfl
theorem hF_pCF (h : hp) (a0 sp a dp n b j : Nat) : hF (pCF h a0 sp a dp n) b j = if b = a ∧ dp ≤ j ∧ j < dp + n then hF h a0 (sp + (j - dp)) else hF h b j := rfl
theorem hI_pCF (h : hp) (a0 sp a dp n : Nat) : hI (pCF h a0 sp a dp n) = hI h := rfl
theorem hR_pCF (h : hp) (a0 sp a dp n : Nat) : hR (pCF h a0 sp a dp n) = hR h := rfl
theorem hT_pCF (h : hp) (a0 sp a dp n : Nat) : hT (pCF h a0 sp a dp n) = hT h := rfl
theorem hN_pCF (h : hp) (a0 sp a dp n : Nat) : hN (pCF h a0 sp a dp n) = hN h := rfl
theorem hL_pCF (h : hp) (a0 sp a dp n : Nat) : hL (pCF h a0 sp a dp n) = hL h := rfl
theorem hT_nw (h : hp) (t n : Nat) : hT (nw h t n) = fun a => if a = 64 + hN h then (t, n) else hT h a := rfl
theorem hI_nw (h : hp) (t n : Nat) : hI (nw h t n) = hI h := rfl
theorem hF_nw (h : hp) (t n : Nat) : hF (nw h t n) = hF h := rfl
theorem hR_nw (h : hp) (t n : Nat) : hR (nw h t n) = hR h := rfl
theorem hN_nw (h : hp) (t n : Nat) : hN (nw h t n) = hN h + 1 := rfl
theorem hL_nw (h : hp) (t n : Nat) : hL (nw h t n) = hL h + n := rfl
/-- a whole number as an int -/
def iN (n : Nat) : Int32 := Int32.ofNat n
theorem i_toInt {n : Nat} (h : n < 2147483648) : (iN n).toInt = (n : Int) := Int32.toInt_ofNat_of_lt h
theorem i_clamp {n : Nat} (h : n < 2147483648) : (iN n).toNatClampNeg = n := by
  rw [Int32.toNatClampNeg, i_toInt h]; exact Int.toNat_natCast n
theorem i_lt {a b : Nat} (ha : a < 2147483648) (hb : b < 2147483648) : (iN a < iN b) = (a < b) := by
  rw [eq_iff_iff, Int32.lt_iff_toInt_lt, i_toInt ha, i_toInt hb]; omega
theorem i_le {a b : Nat} (ha : a < 2147483648) (hb : b < 2147483648) : (iN a ≤ iN b) = (a ≤ b) := by
  rw [eq_iff_iff, Int32.le_iff_toInt_le, i_toInt ha, i_toInt hb]; omega
theorem i_eq {a b : Nat} (ha : a < 2147483648) (hb : b < 2147483648) : (iN a = iN b) = (a = b) := by
  rw [eq_iff_iff]
  constructor
  · intro h
    have := congrArg Int32.toInt h
    rw [i_toInt ha, i_toInt hb] at this; omega
  · rintro rfl; rfl
theorem i_lit_le {m k : Nat} (hm : (OfNat.ofNat m : Nat) < 2147483648) (hk : k < 2147483648) : ((no_index (OfNat.ofNat m : Int32)) ≤ iN k) = (OfNat.ofNat m ≤ k) := i_le (a := m) hm hk
theorem i_lit_lt {m k : Nat} (hm : (OfNat.ofNat m : Nat) < 2147483648) (hk : k < 2147483648) : ((no_index (OfNat.ofNat m : Int32)) < iN k) = (OfNat.ofNat m < k) := i_lt (a := m) hm hk
theorem i_le_lit {m k : Nat} (hm : (OfNat.ofNat m : Nat) < 2147483648) (hk : k < 2147483648) : (iN k ≤ (no_index (OfNat.ofNat m : Int32))) = (k ≤ OfNat.ofNat m) := i_le (b := m) hk hm
theorem i_lt_lit {m k : Nat} (hm : (OfNat.ofNat m : Nat) < 2147483648) (hk : k < 2147483648) : (iN k < (no_index (OfNat.ofNat m : Int32))) = (k < OfNat.ofNat m) := i_lt (b := m) hk hm
theorem i_eq_lit {m k : Nat} (hm : (OfNat.ofNat m : Nat) < 2147483648) (hk : k < 2147483648) : (iN k = (no_index (OfNat.ofNat m : Int32))) = (k = OfNat.ofNat m) := i_eq (b := m) hk hm
theorem i_lit_eq {m k : Nat} (hm : (OfNat.ofNat m : Nat) < 2147483648) (hk : k < 2147483648) : ((no_index (OfNat.ofNat m : Int32)) = iN k) = (OfNat.ofNat m = k) := i_eq (a := m) hm hk
theorem i_add (a b : Nat) : iN a + iN b = iN (a + b) := (Int32.ofNat_add a b).symm
theorem i_succ (a : Nat) : iN a + 1 = iN (a + 1) := i_add a 1
theorem i_addlit (a m : Nat) : iN a + (no_index (OfNat.ofNat m : Int32)) = iN (a + OfNat.ofNat m) := i_add a m
theorem i_sub {a b : Nat} (h : b ≤ a) : iN a - iN b = iN (a - b) := by
  have e : iN a = iN (a - b) + iN b := by rw [i_add, Nat.sub_add_cancel h]
  rw [e, Int32.add_sub_cancel]
theorem i_sublit {a m : Nat} (h : m ≤ a) : iN a - (no_index (OfNat.ofNat m : Int32)) = iN (a - OfNat.ofNat m) := i_sub (b := m) h
theorem i_lt_neg {k : Nat} (hk : k < 2147483648) : (iN k < -1) = False := by
  rw [eq_iff_iff, Int32.lt_iff_toInt_lt, i_toInt hk]
  have : (-1 : Int32).toInt = -1 := by decide
  rw [this]; constructor
  · intro h; omega
  · exact False.elim
theorem i_negOne_lt {k : Nat} (hk : k < 2147483648) : ((-1 : Int32) < iN k) = True := by
  rw [eq_iff_iff, Int32.lt_iff_toInt_lt, i_toInt hk]
  have : (-1 : Int32).toInt = -1 := by decide
  rw [this]; constructor
  · intro _; trivial
  · intro _; omega
theorem i_eq_neg {k : Nat} (hk : k < 2147483648) : (iN k = -1) = False := by
  rw [eq_iff_iff]; constructor
  · intro h
    have h2 := congrArg Int32.toInt h
    rw [i_toInt hk, show (-1 : Int32).toInt = -1 by decide] at h2; omega
  · exact False.elim
/-- an int that isn't below 0 is a whole number's -/
theorem i_of {x : Int32} (h : 0 ≤ x) : ∃ n, x = iN n ∧ n < 2147483648 := by
  rw [Int32.le_iff_toInt_le, show (0 : Int32).toInt = 0 by decide] at h
  have h2 := Int32.toInt_lt x
  refine ⟨x.toInt.toNat, ?_, by omega⟩
  apply Int32.toInt_inj.mp
  rw [i_toInt (by omega)]; omega
theorem i_nlt {x : Int32} : ¬ x < 0 ↔ 0 ≤ x := by
  rw [Int32.lt_iff_toInt_lt, Int32.le_iff_toInt_le]; omega
theorem i_nle {x y : Int32} : ¬ x ≤ y ↔ y < x := by
  rw [Int32.lt_iff_toInt_lt, Int32.le_iff_toInt_le]; omega
theorem i_nlt2 {x y : Int32} : ¬ x < y ↔ y ≤ x := by
  rw [Int32.lt_iff_toInt_lt, Int32.le_iff_toInt_le]; omega
theorem FU_pos (k : Nat) (h : k < 1000000) : k < FU := h
/-- an object of a kind; Numbers: list and size; a Value and its items -/
def NO (h : hp) (a b cap : Nat) : Prop := hT h a = (4, 2) ∧ hT h b = (100, cap) ∧ hR h a 0 = b ∧ a ≠ b ∧ cap ≤ 20000
def VO (h : hp) (a b : Nat) : Prop := hT h a = (10, 5) ∧ hT h b = (100, 16) ∧ hR h a 4 = b ∧ a ≠ b
theorem nEmpty {h : hp} {a b cap : Nat} (H : NO h a b cap) : fX5_empty a h = some (pI h a 1 0) := by
  obtain ⟨t1, t2, r1, ne, hc⟩ := H
  simp [fX5_empty, pfI, t1]
theorem nAdd {h : hp} {a b cap n : Nat} {v : Int32} (H : NO h a b cap) (hs : hI h a 1 = iN n) (hn : n < cap) : fX5_add a v h = some (1, pI (pI h b n v) a 1 (iN (n + 1))) := by
  obtain ⟨t1, t2, r1, ne, hc⟩ := H
  have e1 : ¬ (iN n < 0) := by rw [i_lt_lit (by omega) (by omega)]; exact Nat.not_lt_zero _
  have e2 : iN n < Int32.ofNat cap := by show iN n < iN cap; rw [i_lt (by omega) (by omega)]; exact hn
  have e3 : (0 ≤ (iN n).toInt ∧ (iN n).toInt < (cap : Int)) := by rw [i_toInt (by omega)]; omega
  have e4 : (iN n).toNatClampNeg = n := i_clamp (by omega)
  simp [fX5_add, gfI, gfR, aln, asI, pfI, t1, t2, r1, hs, e1, e2, e3, e4, bd2, hI_pI, hT_pI, ne, i_succ]
theorem nFull {h : hp} {a b cap : Nat} {v : Int32} (H : NO h a b cap) (hs : hI h a 1 = iN cap) : fX5_add a v h = some (0, h) := by
  obtain ⟨t1, t2, r1, ne, hc⟩ := H
  have e1 : ¬ (iN cap < 0) := by rw [i_lt_lit (by omega) (by omega)]; exact Nat.not_lt_zero _
  have e2 : ¬ (iN cap < Int32.ofNat cap) := by show ¬ (iN cap < iN cap); rw [i_lt (by omega) (by omega)]; omega
  simp [fX5_add, gfI, gfR, aln, t1, t2, r1, hs, e1, e2]
theorem nAt {h : hp} {a b cap n : Nat} {i : Int32} (H : NO h a b cap) (hs : hI h a 1 = iN n) (hn : n ≤ cap) : fX5_at a i h = some (if 0 ≤ i.toInt ∧ i.toInt < n then hI h b i.toNatClampNeg else -1, h) := by
  obtain ⟨t1, t2, r1, ne, hc⟩ := H
  by_cases h0 : i < 0
  · have h1 := h0
    rw [Int32.lt_iff_toInt_lt, show (0 : Int32).toInt = 0 by decide] at h1
    simp [fX5_at, h0]
    intro h2; omega
  · obtain ⟨k, rfl, hk⟩ := i_of (i_nlt.mp h0)
    by_cases h1 : k < n
    · have e2 : ¬ (iN n ≤ iN k) := by rw [i_le (by omega) (by omega)]; omega
      have e3 : ¬ (Int32.ofNat cap ≤ iN k) := by show ¬ (iN cap ≤ iN k); rw [i_le (by omega) (by omega)]; omega
      have e4 : (0 ≤ (iN k).toInt ∧ (iN k).toInt < (n : Int)) := by rw [i_toInt (by omega)]; omega
      have e5 : (0 ≤ (iN k).toInt ∧ (iN k).toInt < (cap : Int)) := by rw [i_toInt (by omega)]; omega
      simp [fX5_at, h0, gfI, gfR, aln, alI, t1, t2, r1, hs, e2, e3, e4, e5]
    · have e2 : iN n ≤ iN k := by rw [i_le (by omega) (by omega)]; omega
      have e4 : ¬ ((iN k).toInt < (n : Int)) := by rw [i_toInt (by omega)]; omega
      simp [fX5_at, h0, gfI, t1, hs, e2, e4]
theorem nAtK {h : hp} {a b cap n k : Nat} (H : NO h a b cap) (hs : hI h a 1 = iN n) (hn : n ≤ cap) (hk : k < n) : fX5_at a (iN k) h = some (hI h b k, h) := by
  have hc := H.2.2.2.2
  rw [nAt H hs hn, if_pos (by rw [i_toInt (by omega)]; omega), i_clamp (by omega)]
/-- sums and counts of a list's first places -/
def smF (f : Nat → Int32) : Nat → Nat → Int32 → Int32
  | 0, _, acc => acc
  | d + 1, k, acc => smF f d (k + 1) (acc + f k)
theorem nSum_l {h : hp} {a b cap m : Nat} (H : NO h a b cap) (hs : hI h a 1 = iN m) (hm : m ≤ cap) : ∀ (d k n : Nat) (acc : Int32), k + d = m → d < n → fX5_sum_l4 n a acc (iN k) h = some (smF (hI h b) d k acc, h) := by
  obtain ⟨t1, t2, r1, ne, hc⟩ := H
  intro d
  induction d with
  | zero =>
    intro k n acc hk hn
    obtain ⟨n, rfl⟩ : ∃ q, n = q + 1 := ⟨n - 1, by omega⟩
    have e : iN m ≤ iN k := by rw [i_le (by omega) (by omega)]; omega
    simp [fX5_sum_l4, gfI, t1, hs, e, smF]
  | succ d ih =>
    intro k n acc hk hn
    obtain ⟨n, rfl⟩ : ∃ q, n = q + 1 := ⟨n - 1, by omega⟩
    have e : ¬ (iN m ≤ iN k) := by rw [i_le (by omega) (by omega)]; omega
    have e2 : ¬ (Int32.ofNat cap ≤ iN k) := by show ¬ (iN cap ≤ iN k); rw [i_le (by omega) (by omega)]; omega
    have e3 : (0 ≤ (iN k).toInt ∧ (iN k).toInt < (cap : Int)) := by rw [i_toInt (by omega)]; omega
    have e4 : (iN k).toNatClampNeg = k := i_clamp (by omega)
    simp only [fX5_sum_l4, gfI, gfR, aln, alI, t1, t2, r1, hs, e, e2, e3, e4, if_true, if_false, Option.bind_some, i_succ, and_self]
    rw [ih (k + 1) n _ (by omega) (by omega)]
    rfl
theorem nSum {h : hp} {a b cap m : Nat} (H : NO h a b cap) (hs : hI h a 1 = iN m) (hm : m ≤ cap) : fX5_sum a h = some (smF (hI h b) m 0 0, h) := by
  have hc := H.2.2.2.2
  have := nSum_l H hs hm m 0 FU 0 (by omega) (by show m < 1000000; omega)
  rw [fX5_sum, show (0 : Int32) = iN 0 from rfl, show fX5_sum_l4 FU a (iN 0) (iN 0) h = _ from this]
  rfl
def ctF (f : Nat → Int32) (v : Int32) : Nat → Nat → Int32 → Int32
  | 0, _, acc => acc
  | d + 1, k, acc => ctF f v d (k + 1) (if f k = v then acc + 1 else acc)
theorem nCount_l {h : hp} {a b cap m : Nat} {v : Int32} (H : NO h a b cap) (hs : hI h a 1 = iN m) (hm : m ≤ cap) : ∀ (d k n : Nat) (acc : Int32), k + d = m → d < n → fX5_count_l4 n a v acc (iN k) h = some (ctF (hI h b) v d k acc, h) := by
  obtain ⟨t1, t2, r1, ne, hc⟩ := H
  intro d
  induction d with
  | zero =>
    intro k n acc hk hn
    obtain ⟨n, rfl⟩ : ∃ q, n = q + 1 := ⟨n - 1, by omega⟩
    have e : iN m ≤ iN k := by rw [i_le (by omega) (by omega)]; omega
    simp [fX5_count_l4, gfI, t1, hs, e, ctF]
  | succ d ih =>
    intro k n acc hk hn
    obtain ⟨n, rfl⟩ : ∃ q, n = q + 1 := ⟨n - 1, by omega⟩
    have e : ¬ (iN m ≤ iN k) := by rw [i_le (by omega) (by omega)]; omega
    have e2 : ¬ (Int32.ofNat cap ≤ iN k) := by show ¬ (iN cap ≤ iN k); rw [i_le (by omega) (by omega)]; omega
    have e3 : (0 ≤ (iN k).toInt ∧ (iN k).toInt < (cap : Int)) := by rw [i_toInt (by omega)]; omega
    have e4 : (iN k).toNatClampNeg = k := i_clamp (by omega)
    simp only [fX5_count_l4, gfI, gfR, aln, alI, t1, t2, r1, hs, e, e2, e3, e4, if_true, if_false, Option.bind_some, i_succ, and_self]
    by_cases hv : hI h b k = v
    · rw [if_pos hv, ih (k + 1) n _ (by omega) (by omega), ctF, if_pos hv]
    · rw [if_neg hv, ih (k + 1) n _ (by omega) (by omega), ctF, if_neg hv]
theorem nCount {h : hp} {a b cap m : Nat} {v : Int32} (H : NO h a b cap) (hs : hI h a 1 = iN m) (hm : m ≤ cap) : fX5_count a v h = some (ctF (hI h b) v m 0 0, h) := by
  have hc := H.2.2.2.2
  have := nCount_l (v := v) H hs hm m 0 FU 0 (by omega) (by show m < 1000000; omega)
  rw [fX5_count, show fX5_count_l4 FU a v 0 0 h = _ from this]
  rfl
theorem jn_e {α β : Type} (k : α) (b : α → β) : jn k b = b k := rfl

/-! the FILTERS of the class -/
def inI (x : Int32) : Prop := -1000000 ≤ x.toInt ∧ x.toInt ≤ 1000000
def inL (x : Int64) : Bool := decide (-1000000 ≤ x.toInt ∧ x.toInt ≤ 1000000)
/-- a count: an INT, or the fault 4 -/
def cnt (x : Int64) (V : vT) : Nat × vT := if inL x then (0, vI x.toInt32) else (4, V)
def upF (c : Int32) : Int32 := if 97 ≤ c ∧ c ≤ 122 then c + (-32) else c
def loF (c : Int32) : Int32 := if 65 ≤ c ∧ c ≤ 90 then c + 32 else c
def isFig (c : Int32) : Prop := 48 ≤ c ∧ c ≤ 57
/-- how many figures -/
def fgF (f : Nat → Int32) : Nat → Nat → Int32 → Int32
  | 0, _, acc => acc
  | d + 1, k, acc => fgF f d (k + 1) (if 48 ≤ f k ∧ f k ≤ 57 then acc + 1 else acc)
def suF (f : Nat → Int32) : Nat → Nat → Int64 → Int64
  | 0, _, acc => acc
  | d + 1, k, acc => suF f d (k + 1) (acc + (f k).toInt64)
/-- v goes down from place j to where it belongs -/
def shF (v : Int32) : Nat → (Nat → Int32) → (Nat → Int32)
  | 0, g => fun k => if k = 0 then v else g k
  | j + 1, g => if g j ≤ v then fun k => if k = j + 1 then v else g k else shF v j (fun k => if k = j + 1 then g j else g k)
def soF : Nat → Nat → (Nat → Int32) → (Nat → Int32)
  | 0, _, g => g
  | d + 1, a, g => soF d (a + 1) (shF (g a) a g)
theorem i_div2 (n : Nat) (h : n < 2147483648) : iN n / 2 = iN (n / 2) := by
  apply Int32.toInt_inj.mp
  rw [Jvm.Kit.i32_div (by rw [show (2 : Int32).toInt = 2 by decide]; omega), i_toInt h, i_toInt (by omega), show (2 : Int32).toInt = 2 by decide]
  rw [Int.tdiv_eq_ediv_of_nonneg (by omega)]; omega
theorem cUp_l {h : hp} {a b n : Nat} (H : VO h a b) (hs : hI h a 3 = iN n) (hn : n ≤ 16) : ∀ (d k m : Nat) (g : Nat → Int32), k + d = n → d < m → fX11_filterText_l58 m a (iN k) (sI h b g) = some (sI h b (fun j => if k ≤ j ∧ j < n then upF (g j) else g j)) := by
  obtain ⟨t1, t2, r1, ne⟩ := id H
  intro d
  induction d with
  | zero =>
    intro k m g hk hm
    obtain ⟨m, rfl⟩ : ∃ q, m = q + 1 := ⟨m - 1, by omega⟩
    have e : iN n ≤ iN k := by rw [i_le (by omega) (by omega)]; omega
    have e2 : hI (sI h b g) a 3 = iN n := by rw [hI_sI, if_neg ne]; exact hs
    simp only [fX11_filterText_l58, gfI, hT_sI, t1, e2, e, if_true, Option.bind_some]
    exact congrArg some (sI_congr h b fun j => by rw [if_neg (by omega)])
  | succ d ih =>
    intro k m g hk hm
    obtain ⟨m, rfl⟩ : ∃ q, m = q + 1 := ⟨m - 1, by omega⟩
    have e : ¬ (iN n ≤ iN k) := by rw [i_le (by omega) (by omega)]; omega
    have H2 : VO (sI h b g) a b := H
    have e2 : hI (sI h b g) a 3 = iN n := by rw [hI_sI, if_neg ne]; exact hs
    have e3 : hI (sI h b g) b k = g k := by rw [hI_sI, if_pos rfl]
    have at1 : fX11_at a (iN k) (sI h b g) = some (g k, sI h b g) := by rw [vAt H2 e2 hn (by omega), e3]
    have pt1 : ∀ v, fX11_put a (iN k) v (sI h b g) = some (sI h b (fun j => if j = k then v else g j)) := fun v => by rw [vPut H2 e2 hn (by omega), pI_sI]
    simp only [fX11_filterText_l58, gfI, ckT, hT_sI, t1, e2, e, if_true, if_false, Option.bind_some, bd2, at1, fX13_isSmall, pt1, i_succ]
    by_cases c1 : g k < 97
    · simp only [c1, if_true, Option.bind_some]
      rw [ih (k + 1) m g (by omega) (by omega)]
      refine congrArg some (sI_congr h b fun j => ?_)
      by_cases ej : j = k
      · subst ej
        rw [if_neg (by omega), if_pos (by omega), upF, if_neg]
        rintro ⟨c2, -⟩
        exact absurd c2 (by rw [i_nle]; exact c1)
      · by_cases c3 : k ≤ j ∧ j < n
        · rw [if_pos c3, if_pos (by omega)]
        · rw [if_neg c3, if_neg (by omega)]
    · by_cases c2 : 122 < g k
      · simp only [c1, c2, if_true, if_false, Option.bind_some]
        rw [ih (k + 1) m g (by omega) (by omega)]
        refine congrArg some (sI_congr h b fun j => ?_)
        by_cases ej : j = k
        · subst ej
          rw [if_neg (by omega), if_pos (by omega), upF, if_neg]
          rintro ⟨-, c3⟩
          exact absurd c3 (by rw [i_nle]; exact c2)
        · by_cases c3 : k ≤ j ∧ j < n
          · rw [if_pos c3, if_pos (by omega)]
          · rw [if_neg c3, if_neg (by omega)]
      · have z : ¬ ((1 : Int32) = 0) := by decide
        simp only [c1, c2, z, if_true, if_false, Option.bind_some, hT_sI, t1, at1, pt1]
        rw [ih (k + 1) m _ (by omega) (by omega)]
        refine congrArg some (sI_congr h b fun j => ?_)
        by_cases ej : j = k
        · subst ej
          rw [if_neg (by omega), if_pos rfl, if_pos (by omega), upF, if_pos ⟨i_nlt2.mp c1, i_nlt2.mp c2⟩]
          rw [Int32.sub_eq_add_neg, Int32.add_assoc]; rfl
        · by_cases c3 : k ≤ j ∧ j < n
          · rw [if_pos c3, if_pos (by omega), if_neg ej]
          · rw [if_neg c3, if_neg (by omega), if_neg ej]
theorem cLo_l {h : hp} {a b n : Nat} (H : VO h a b) (hs : hI h a 3 = iN n) (hn : n ≤ 16) : ∀ (d k m : Nat) (g : Nat → Int32), k + d = n → d < m → fX11_filterText_l103 m a (iN k) (sI h b g) = some (sI h b (fun j => if k ≤ j ∧ j < n then loF (g j) else g j)) := by
  obtain ⟨t1, t2, r1, ne⟩ := id H
  intro d
  induction d with
  | zero =>
    intro k m g hk hm
    obtain ⟨m, rfl⟩ : ∃ q, m = q + 1 := ⟨m - 1, by omega⟩
    have e : iN n ≤ iN k := by rw [i_le (by omega) (by omega)]; omega
    have e2 : hI (sI h b g) a 3 = iN n := by rw [hI_sI, if_neg ne]; exact hs
    simp only [fX11_filterText_l103, gfI, hT_sI, t1, e2, e, if_true, Option.bind_some]
    exact congrArg some (sI_congr h b fun j => by rw [if_neg (by omega)])
  | succ d ih =>
    intro k m g hk hm
    obtain ⟨m, rfl⟩ : ∃ q, m = q + 1 := ⟨m - 1, by omega⟩
    have e : ¬ (iN n ≤ iN k) := by rw [i_le (by omega) (by omega)]; omega
    have H2 : VO (sI h b g) a b := H
    have e2 : hI (sI h b g) a 3 = iN n := by rw [hI_sI, if_neg ne]; exact hs
    have e3 : hI (sI h b g) b k = g k := by rw [hI_sI, if_pos rfl]
    have at1 : fX11_at a (iN k) (sI h b g) = some (g k, sI h b g) := by rw [vAt H2 e2 hn (by omega), e3]
    have pt1 : ∀ v, fX11_put a (iN k) v (sI h b g) = some (sI h b (fun j => if j = k then v else g j)) := fun v => by rw [vPut H2 e2 hn (by omega), pI_sI]
    simp only [fX11_filterText_l103, gfI, ckT, hT_sI, t1, e2, e, if_true, if_false, Option.bind_some, bd2, at1, fX13_isGreat, pt1, i_succ]
    by_cases c1 : g k < 65
    · simp only [c1, if_true, Option.bind_some]
      rw [ih (k + 1) m g (by omega) (by omega)]
      refine congrArg some (sI_congr h b fun j => ?_)
      by_cases ej : j = k
      · subst ej
        rw [if_neg (by omega), if_pos (by omega), loF, if_neg]
        rintro ⟨c2, -⟩
        exact absurd c2 (by rw [i_nle]; exact c1)
      · by_cases c3 : k ≤ j ∧ j < n
        · rw [if_pos c3, if_pos (by omega)]
        · rw [if_neg c3, if_neg (by omega)]
    · by_cases c2 : 90 < g k
      · simp only [c1, c2, if_true, if_false, Option.bind_some]
        rw [ih (k + 1) m g (by omega) (by omega)]
        refine congrArg some (sI_congr h b fun j => ?_)
        by_cases ej : j = k
        · subst ej
          rw [if_neg (by omega), if_pos (by omega), loF, if_neg]
          rintro ⟨-, c3⟩
          exact absurd c3 (by rw [i_nle]; exact c2)
        · by_cases c3 : k ≤ j ∧ j < n
          · rw [if_pos c3, if_pos (by omega)]
          · rw [if_neg c3, if_neg (by omega)]
      · have z : ¬ ((1 : Int32) = 0) := by decide
        simp only [c1, c2, z, if_true, if_false, Option.bind_some, hT_sI, t1, at1, pt1]
        rw [ih (k + 1) m _ (by omega) (by omega)]
        refine congrArg some (sI_congr h b fun j => ?_)
        by_cases ej : j = k
        · subst ej
          rw [if_neg (by omega), if_pos rfl, if_pos (by omega), loF, if_pos ⟨i_nlt2.mp c1, i_nlt2.mp c2⟩]
          rw [Int32.sub_eq_add_neg, Int32.add_assoc]; rfl
        · by_cases c3 : k ≤ j ∧ j < n
          · rw [if_pos c3, if_pos (by omega), if_neg ej]
          · rw [if_neg c3, if_neg (by omega), if_neg ej]
theorem vExch {h : hp} {a b i j : Nat} {g : Nat → Int32} (H : VO h a b) (hi : i < 16) (hj : j < 16) : fX11_exchange a (iN i) (iN j) (sI h b g) = some (sI h b (fun k => if k = j then g i else if k = i then g j else g k)) := by
  obtain ⟨t1, t2, r1, ne⟩ := id H
  have e1 : ¬ (iN i < 0) := by rw [i_lt_lit (by omega) (by omega)]; exact Nat.not_lt_zero _
  have e2 : ¬ (iN j < 0) := by rw [i_lt_lit (by omega) (by omega)]; exact Nat.not_lt_zero _
  have e3 : ¬ (Int32.ofNat 16 ≤ iN i) := by show ¬ (iN 16 ≤ iN i); rw [i_le (by omega) (by omega)]; omega
  have e4 : iN j < Int32.ofNat 16 := by show iN j < iN 16; rw [i_lt (by omega) (by omega)]; omega
  have e5 : (0 ≤ (iN i).toInt ∧ (iN i).toInt < ((16 : Nat) : Int)) := by rw [i_toInt (by omega)]; omega
  have e6 : (0 ≤ (iN j).toInt ∧ (iN j).toInt < ((16 : Nat) : Int)) := by rw [i_toInt (by omega)]; omega
  have e7 : (iN i).toNatClampNeg = i := i_clamp (by omega)
  have e8 : (iN j).toNatClampNeg = j := i_clamp (by omega)
  have x1 : hI (sI h b g) b i = g i := by rw [hI_sI, if_pos rfl]
  have x2 : hI (sI h b g) b j = g j := by rw [hI_sI, if_pos rfl]
  simp only [fX11_exchange, gfR, aln, alI, asI, hT_sI, hR_sI, hT_pI, hR_pI, t1, t2, r1, e1, e2, e3, e4, e5, e6, e7, e8, x1, x2, if_true, if_false, Option.bind_some, and_self, pI_sI]
theorem cRev_l {h : hp} {a b n : Nat} (H : VO h a b) (hs : hI h a 3 = iN n) (hn : n ≤ 16) : ∀ (d k m : Nat) (g : Nat → Int32), k + d = n / 2 → d < m → fX11_filterItems_l38 m a (iN k) (sI h b g) = some (sI h b (fun j => if k ≤ j ∧ j + k < n then g (n - 1 - j) else g j)) := by
  obtain ⟨t1, t2, r1, ne⟩ := id H
  have z2 : ¬ ((2 : Int32) = 0) := by decide
  intro d
  induction d with
  | zero =>
    intro k m g hk hm
    obtain ⟨m, rfl⟩ : ∃ q, m = q + 1 := ⟨m - 1, by omega⟩
    have e : iN (n / 2) ≤ iN k := by rw [i_le (by omega) (by omega)]; omega
    have e2 : hI (sI h b g) a 3 = iN n := by rw [hI_sI, if_neg ne]; exact hs
    simp only [fX11_filterItems_l38, gfI, dvI, hT_sI, t1, e2, i_div2 n (by omega), z2, e, if_true, if_false, Option.bind_some]
    refine congrArg some (sI_congr h b fun j => ?_)
    by_cases c : k ≤ j ∧ j + k < n
    · rw [if_pos c, show n - 1 - j = j by omega]
    · rw [if_neg c]
  | succ d ih =>
    intro k m g hk hm
    obtain ⟨m, rfl⟩ : ∃ q, m = q + 1 := ⟨m - 1, by omega⟩
    have e : ¬ (iN (n / 2) ≤ iN k) := by rw [i_le (by omega) (by omega)]; omega
    have e2 : hI (sI h b g) a 3 = iN n := by rw [hI_sI, if_neg ne]; exact hs
    have e3 : iN n - 1 - iN k = iN (n - 1 - k) := by
      rw [show (1 : Int32) = iN 1 from rfl, i_sub (by omega), i_sub (by omega)]
    simp only [fX11_filterItems_l38, gfI, dvI, ckT, hT_sI, t1, e2, i_div2 n (by omega), z2, e, e3, if_true, if_false, Option.bind_some, i_succ]
    rw [vExch H (by omega) (by omega)]
    simp only [Option.bind_some]
    rw [ih (k + 1) m _ (by omega) (by omega)]
    refine congrArg some (sI_congr h b fun j => ?_)
    by_cases c : k + 1 ≤ j ∧ j + (k + 1) < n
    · rw [if_pos c, if_neg (by omega), if_neg (by omega), if_pos (by omega)]
    · rw [if_neg c]
      by_cases c1 : j = n - 1 - k
      · subst c1
        rw [if_pos rfl, if_pos (by omega), show n - 1 - (n - 1 - k) = k by omega]
      · rw [if_neg c1]
        by_cases c2 : j = k
        · subst c2
          rw [if_pos rfl, if_pos (by omega)]
        · rw [if_neg c2, if_neg (by omega)]
theorem cPad_l {h : hp} {a b n : Nat} (H : VO h a b) (hs : hI h a 3 = iN n) (hn : n ≤ 16) : ∀ (d k m : Nat) (g : Nat → Int32), k + d = n → d < m → fX11_padTo_l16 m a (iN k) (sI h b g) = some (sI h b (fun j => if k ≤ j ∧ j < n then 32 else g j)) := by
  obtain ⟨t1, t2, r1, ne⟩ := id H
  intro d
  induction d with
  | zero =>
    intro k m g hk hm
    obtain ⟨m, rfl⟩ : ∃ q, m = q + 1 := ⟨m - 1, by omega⟩
    have e : iN n ≤ iN k := by rw [i_le (by omega) (by omega)]; omega
    have e2 : hI (sI h b g) a 3 = iN n := by rw [hI_sI, if_neg ne]; exact hs
    simp only [fX11_padTo_l16, gfI, hT_sI, t1, e2, e, if_true, Option.bind_some]
    exact congrArg some (sI_congr h b fun j => by rw [if_neg (by omega)])
  | succ d ih =>
    intro k m g hk hm
    obtain ⟨m, rfl⟩ : ∃ q, m = q + 1 := ⟨m - 1, by omega⟩
    have e : ¬ (iN n ≤ iN k) := by rw [i_le (by omega) (by omega)]; omega
    have H2 : VO (sI h b g) a b := H
    have e2 : hI (sI h b g) a 3 = iN n := by rw [hI_sI, if_neg ne]; exact hs
    have pt1 : ∀ v, fX11_put a (iN k) v (sI h b g) = some (sI h b (fun j => if j = k then v else g j)) := fun v => by rw [vPut H2 e2 hn (by omega), pI_sI]
    simp only [fX11_padTo_l16, gfI, ckT, hT_sI, t1, e2, e, if_true, if_false, Option.bind_some, pt1, i_succ]
    rw [ih (k + 1) m _ (by omega) (by omega)]
    refine congrArg some (sI_congr h b fun j => ?_)
    by_cases ej : j = k
    · subst ej
      rw [if_neg (by omega), if_pos rfl, if_pos (by omega)]
    · by_cases c3 : k ≤ j ∧ j < n
      · rw [if_pos c3, if_pos (by omega)]
      · rw [if_neg c3, if_neg (by omega), if_neg ej]
theorem cZero_l {h : hp} {a b n : Nat} (H : VO h a b) (hs : hI h a 3 = iN n) (hn : n ≤ 16) : ∀ (d k m : Nat) (g : Nat → Int32), k + d = n → d < m → fX11_becomeList_l12 m a (iN k) (sI h b g) = some (sI h b (fun j => if k ≤ j ∧ j < n then 0 else g j)) := by
  obtain ⟨t1, t2, r1, ne⟩ := id H
  intro d
  induction d with
  | zero =>
    intro k m g hk hm
    obtain ⟨m, rfl⟩ : ∃ q, m = q + 1 := ⟨m - 1, by omega⟩
    have e : iN n ≤ iN k := by rw [i_le (by omega) (by omega)]; omega
    have e2 : hI (sI h b g) a 3 = iN n := by rw [hI_sI, if_neg ne]; exact hs
    simp only [fX11_becomeList_l12, gfI, hT_sI, t1, e2, e, if_true, Option.bind_some]
    exact congrArg some (sI_congr h b fun j => by rw [if_neg (by omega)])
  | succ d ih =>
    intro k m g hk hm
    obtain ⟨m, rfl⟩ : ∃ q, m = q + 1 := ⟨m - 1, by omega⟩
    have e : ¬ (iN n ≤ iN k) := by rw [i_le (by omega) (by omega)]; omega
    have H2 : VO (sI h b g) a b := H
    have e2 : hI (sI h b g) a 3 = iN n := by rw [hI_sI, if_neg ne]; exact hs
    have pt1 : ∀ v, fX11_put a (iN k) v (sI h b g) = some (sI h b (fun j => if j = k then v else g j)) := fun v => by rw [vPut H2 e2 hn (by omega), pI_sI]
    simp only [fX11_becomeList_l12, gfI, ckT, hT_sI, t1, e2, e, if_true, if_false, Option.bind_some, pt1, i_succ]
    rw [ih (k + 1) m _ (by omega) (by omega)]
    refine congrArg some (sI_congr h b fun j => ?_)
    by_cases ej : j = k
    · subst ej
      rw [if_neg (by omega), if_pos rfl, if_pos (by omega)]
    · by_cases c3 : k ≤ j ∧ j < n
      · rw [if_pos c3, if_pos (by omega)]
      · rw [if_neg c3, if_neg (by omega), if_neg ej]
theorem cFig_l {h : hp} {a b n : Nat} (H : VO h a b) (hs : hI h a 3 = iN n) (hn : n ≤ 16) : ∀ (d k m : Nat) (acc : Int32), k + d = n → d < m → fX11_countFigures_l4 m a acc (iN k) h = some (fgF (hI h b) d k acc, h) := by
  obtain ⟨t1, t2, r1, ne⟩ := id H
  intro d
  induction d with
  | zero =>
    intro k m acc hk hm
    obtain ⟨m, rfl⟩ : ∃ q, m = q + 1 := ⟨m - 1, by omega⟩
    have e : iN n ≤ iN k := by rw [i_le (by omega) (by omega)]; omega
    simp only [fX11_countFigures_l4, gfI, t1, hs, e, if_true, Option.bind_some, fgF]
  | succ d ih =>
    intro k m acc hk hm
    obtain ⟨m, rfl⟩ : ∃ q, m = q + 1 := ⟨m - 1, by omega⟩
    have e : ¬ (iN n ≤ iN k) := by rw [i_le (by omega) (by omega)]; omega
    simp only [fX11_countFigures_l4, gfI, ckT, t1, hs, e, if_true, if_false, Option.bind_some, bd2, vAt H hs hn (show k < n by omega), fX13_isFigure, i_succ, fgF]
    by_cases c1 : hI h b k < 48
    · have c1' : ¬ (48 ≤ hI h b k ∧ hI h b k ≤ 57) := fun q => absurd q.1 (by rw [i_nle]; exact c1)
      simp only [c1, c1', if_true, if_false, Option.bind_some]
      rw [ih (k + 1) m _ (by omega) (by omega)]
    · by_cases c2 : 57 < hI h b k
      · have c1' : ¬ (48 ≤ hI h b k ∧ hI h b k ≤ 57) := fun q => absurd q.2 (by rw [i_nle]; exact c2)
        simp only [c1, c2, c1', if_true, if_false, Option.bind_some]
        rw [ih (k + 1) m _ (by omega) (by omega)]
      · have c1' : (48 ≤ hI h b k ∧ hI h b k ≤ 57) := ⟨i_nlt2.mp c1, i_nlt2.mp c2⟩
        have z : ¬ ((1 : Int32) = 0) := by decide
        simp only [c1, c2, z, if_true, if_false, Option.bind_some]
        rw [ih (k + 1) m _ (by omega) (by omega), if_pos c1']
theorem cSum_l {h : hp} {a b n : Nat} (H : VO h a b) (hs : hI h a 3 = iN n) (hn : n ≤ 16) : ∀ (d k m : Nat) (acc : Int64), k + d = n → d < m → fX11_sumOfItems_l4 m a acc (iN k) h = some (suF (hI h b) d k acc, h) := by
  obtain ⟨t1, t2, r1, ne⟩ := id H
  intro d
  induction d with
  | zero =>
    intro k m acc hk hm
    obtain ⟨m, rfl⟩ : ∃ q, m = q + 1 := ⟨m - 1, by omega⟩
    have e : iN n ≤ iN k := by rw [i_le (by omega) (by omega)]; omega
    simp only [fX11_sumOfItems_l4, gfI, t1, hs, e, if_true, Option.bind_some, suF]
  | succ d ih =>
    intro k m acc hk hm
    obtain ⟨m, rfl⟩ : ∃ q, m = q + 1 := ⟨m - 1, by omega⟩
    have e : ¬ (iN n ≤ iN k) := by rw [i_le (by omega) (by omega)]; omega
    simp only [fX11_sumOfItems_l4, gfI, ckT, t1, hs, e, if_true, if_false, Option.bind_some, bd2, vAt H hs hn (show k < n by omega), i_succ, suF]
    rw [ih (k + 1) m _ (by omega) (by omega)]
theorem cSort_i {h : hp} {a b n : Nat} (H : VO h a b) (hs : hI h a 3 = iN n) (hn : n ≤ 16) (v x1 : Int32) : ∀ (j m : Nat) (g : Nat → Int32), j < n → j < m → g j = v → fX11_sortItems_l12 m a x1 (iN j) (sI h b g) = some (sI h b (shF v j g)) := by
  obtain ⟨t1, t2, r1, ne⟩ := id H
  intro j
  induction j with
  | zero =>
    intro m g hj hm hg
    obtain ⟨m, rfl⟩ : ∃ q, m = q + 1 := ⟨m - 1, by omega⟩
    have e : iN 0 ≤ 0 := by decide
    simp only [fX11_sortItems_l12, e, if_true, shF]
    refine congrArg some (sI_congr h b fun k => ?_)
    by_cases c : k = 0
    · subst c; rw [if_pos rfl]; exact hg
    · rw [if_neg c]
  | succ j ih =>
    intro m g hj hm hg
    obtain ⟨m, rfl⟩ : ∃ q, m = q + 1 := ⟨m - 1, by omega⟩
    have e : ¬ (iN (j + 1) ≤ 0) := by rw [i_le_lit (by omega) (by omega)]; omega
    have H2 : VO (sI h b g) a b := H
    have e2 : hI (sI h b g) a 3 = iN n := by rw [hI_sI, if_neg ne]; exact hs
    have e3 : iN (j + 1) - 1 = iN j := by rw [show (1 : Int32) = iN 1 from rfl, i_sub (by omega)]; rfl
    have e4 : iN (j + 1) + (-1) = iN j := by rw [← Int32.sub_eq_add_neg]; exact e3
    have at1 : fX11_at a (iN (j + 1)) (sI h b g) = some (v, sI h b g) := by rw [vAt H2 e2 hn hj, hI_sI, if_pos rfl, hg]
    have at2 : fX11_at a (iN j) (sI h b g) = some (g j, sI h b g) := by rw [vAt H2 e2 hn (by omega), hI_sI, if_pos rfl]
    simp only [fX11_sortItems_l12, e, e3, e4, ckT, hT_sI, t1, if_true, if_false, Option.bind_some, bd2, at1, at2]
    by_cases c : g j ≤ v
    · simp only [c, if_true, shF]
      refine congrArg some (sI_congr h b fun k => ?_)
      by_cases ck : k = j + 1
      · subst ck; rw [if_pos rfl]; exact hg
      · rw [if_neg ck]
    · simp only [c, if_false, shF]
      rw [vExch H (by omega) (by omega)]
      simp only [Option.bind_some]
      rw [ih m _ (by omega) (by omega) (by rw [if_pos rfl]; exact hg)]
      refine congrArg some (sI_congr h b ?_)
      intro k
      refine congrFun ?_ k
      -- only place j differs, where v stands anyhow
      have key : ∀ (i : Nat) (p q : Nat → Int32), (∀ k, k ≠ i → p k = q k) → shF v i p = shF v i q := by
        intro i
        cases i with
        | zero => intro p q hpq; funext k; simp only [shF]; by_cases ck : k = 0 <;> simp [ck, hpq]
        | succ i =>
          intro p q hpq
          simp only [shF]
          rw [hpq i (by omega)]
          by_cases c9 : q i ≤ v
          · simp only [c9, if_true]; funext k; by_cases ck : k = i + 1
            · simp [ck]
            · simp [ck, hpq k ck]
          · simp only [c9, if_false]
            congr 1
            funext k; by_cases ck : k = i + 1
            · simp [ck]
            · simp [ck, hpq k ck]
      apply key
      intro k hk
      by_cases ck : k = j + 1
      · subst ck; simp
      · simp [ck, hk]
theorem cSort_l {h : hp} {a b n : Nat} (H : VO h a b) (hs : hI h a 3 = iN n) (hn : n ≤ 16) : ∀ (d k m : Nat) (g : Nat → Int32), k + d = max n 1 → 1 ≤ k → d < m → fX11_sortItems_l2 m a (iN k) (sI h b g) = some (sI h b (soF d k g)) := by
  obtain ⟨t1, t2, r1, ne⟩ := id H
  intro d
  induction d with
  | zero =>
    intro k m g hk h1 hm
    obtain ⟨m, rfl⟩ : ∃ q, m = q + 1 := ⟨m - 1, by omega⟩
    have e : iN n ≤ iN k := by rw [i_le (by omega) (by omega)]; omega
    have e2 : hI (sI h b g) a 3 = iN n := by rw [hI_sI, if_neg ne]; exact hs
    simp only [fX11_sortItems_l2, gfI, hT_sI, t1, e2, e, if_true, Option.bind_some, soF]
  | succ d ih =>
    intro k m g hk h1 hm
    obtain ⟨m, rfl⟩ : ∃ q, m = q + 1 := ⟨m - 1, by omega⟩
    have e : ¬ (iN n ≤ iN k) := by rw [i_le (by omega) (by omega)]; omega
    have e2 : hI (sI h b g) a 3 = iN n := by rw [hI_sI, if_neg ne]; exact hs
    simp only [fX11_sortItems_l2, gfI, hT_sI, t1, e2, e, if_true, if_false, Option.bind_some, soF, i_succ]
    rw [cSort_i H hs hn (g k) (iN k) k FU g (by omega) (by show k < 1000000; omega) rfl]
    simp only [Option.bind_some]
    rw [ih (k + 1) m _ (by omega) (by omega) (by omega)]
theorem limF_good {f : UInt32} (h : Jvm.FP.Core.fIsNaN f = false) : gF (limF f) := by
  have hv := (Jvm.FP.Core.notNaN_iff32 f).mp h
  have hlt := f.toNat_lt
  unfold limF
  split
  · rename_i c1
    rw [cmpl_le hv nn1, ky1] at c1
    split
    · rename_i c2
      rw [cmpg_ge hv nn2, ky2] at c2
      split
      · exact ⟨by decide, by decide⟩
      · rename_i c3
        rw [cmpl_eq hv nn0, ky0] at c3
        unfold Jvm.FP.Core.fkey at c1 c2 c3
        refine ⟨?_, fun q => ?_⟩
        · split at c1 <;> omega
        · rw [q] at c3; simp at c3
    · exact ⟨by decide, by decide⟩
  · exact ⟨by decide, by decide⟩

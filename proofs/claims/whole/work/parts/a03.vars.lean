/-! the variables of a text -/
def vK175 (n : Nat) (x1 x2 p77 v7 p115 : Int32) (h : hp) : Option (Int32 × hp) :=
  if p77 = 0 then fX14_variablesIn_l7 n 165 x1 x2 p77 (p115 + 1) h else
  bd2 (fX14_isIn (v7.toInt64) 97 104 h) fun v10 h11 =>
  if v10 = 0 then fX14_variablesIn_l7 n 165 x1 x2 p77 (p115 + 1) h11 else
  fX14_variablesIn_l7 n 165 x1 (x2 ||| ((1 : Int32) <<< ((v7 - 97) &&& 31))) p77 (p115 + 1) h11
def vK115 (n : Nat) (x1 x2 p77 v7 s57 p115 : Int32) (h : hp) : Option (Int32 × hp) :=
  if p77 = 0 then vK175 n x1 x2 p77 v7 p115 h else
  bd2 (fX14_isIn (v7.toInt64) 97 122 h) fun v13 h14 =>
  if v13 = 0 then vK175 n x1 x2 p77 v7 p115 h14 else
  if s57 = 124 then bd2 (fX14_variablesIn_l141 FU 165 x1 x2 p77 p115 h14) fun v17 h16 => fX14_variablesIn_l7 n 165 x1 x2 p77 (v17 + 1) h16
  else vK175 n x1 x2 p77 v7 p115 h14
def vK77 (n : Nat) (x1 x2 p77 x4 v7 s57 : Int32) (h : hp) : Option (Int32 × hp) :=
  if p77 = 0 then vK115 n x1 x2 p77 v7 s57 x4 h else
  if v7 = 39 then bd2 (fX14_variablesIn_l91 FU 165 x1 x2 p77 (x4 + 1) v7 s57 h) fun v20 h19 => vK115 n x1 x2 p77 v7 s57 v20 h19
  else vK115 n x1 x2 p77 v7 s57 x4 h
def wasL (L : List Int32) (i : Nat) : Int32 := if i = 0 then 0 else L.getD (i - 1) 0
theorem v_e {h : hp} {k i : Nat} {L : List Int32} (T : TX h k L) (hi : i < L.length) (n : Nat) (s a : Int32) : fX14_variablesIn_l7 (n + 1) 165 (iN k) s a (iN i) h = vK77 n (iN k) s (if L.getD i 0 = 125 then 0 else if L.getD i 0 = 123 then 1 else a) (iN i) (L.getD i 0) (wasL L i) h := by
  have w := T.1
  have hl := T.2.2.1
  have st : fX14_variablesIn_l7 (n + 1) 165 (iN k) s a (iN i) h = if iN i = 0 then (if L.getD i 0 = 123 then (if L.getD i 0 = 125 then vK77 n (iN k) s 0 (iN i) (L.getD i 0) 0 h else vK77 n (iN k) s 1 (iN i) (L.getD i 0) 0 h) else (if L.getD i 0 = 125 then vK77 n (iN k) s 0 (iN i) (L.getD i 0) 0 h else vK77 n (iN k) s a (iN i) (L.getD i 0) 0 h)) else ((gfR h 165 13 8).bind fun v21 => (alI h v21 ((160 * iN k + iN i) - 1)).bind fun v23 => (if L.getD i 0 = 123 then (if L.getD i 0 = 125 then vK77 n (iN k) s 0 (iN i) (L.getD i 0) v23 h else vK77 n (iN k) s 1 (iN i) (L.getD i 0) v23 h) else (if L.getD i 0 = 125 then vK77 n (iN k) s 0 (iN i) (L.getD i 0) v23 h else vK77 n (iN k) s a (iN i) (L.getD i 0) v23 h))) := by
    rw [fX14_variablesIn_l7, MR9 w, Option.bind_some, T.sz, Option.bind_some, if_neg (by rw [i_le (by omega) (by omega)]; omega), MR8 w, Option.bind_some, k160, i_add, T.tx hi, Option.bind_some]
    rfl
  rw [st]
  have fin : ∀ v23, (if L.getD i 0 = 123 then (if L.getD i 0 = 125 then vK77 n (iN k) s 0 (iN i) (L.getD i 0) v23 h else vK77 n (iN k) s 1 (iN i) (L.getD i 0) v23 h) else (if L.getD i 0 = 125 then vK77 n (iN k) s 0 (iN i) (L.getD i 0) v23 h else vK77 n (iN k) s a (iN i) (L.getD i 0) v23 h)) = vK77 n (iN k) s (if L.getD i 0 = 125 then 0 else if L.getD i 0 = 123 then 1 else a) (iN i) (L.getD i 0) v23 h := fun v23 => by
    by_cases c1 : L.getD i 0 = 123
    · have c2 : ¬ L.getD i 0 = 125 := fun z => by rw [c1] at z; exact absurd z (by decide)
      simp only [if_pos c1, if_neg c2]
    · by_cases c2 : L.getD i 0 = 125
      · simp only [if_neg c1, if_pos c2]
      · simp only [if_neg c1, if_neg c2]
  by_cases c0 : i = 0
  · rw [if_pos (by rw [c0]; rfl), fin, wasL, if_pos c0]
  · rw [if_neg (by rw [i_eq_lit (by decide) (by omega)]; exact c0), MR8 w, Option.bind_some, k160, i_add, show iN (160 * k + i) - 1 = iN (160 * k + (i - 1)) by rw [i_sub1 (by omega)]; congr 1; omega, T.tx (by omega), Option.bind_some, fin, wasL, if_neg c0]
theorem vI_e (v : Int32) (h : hp) : fX14_isIn v.toInt64 97 104 h = some (if 97 ≤ v.toInt ∧ v.toInt ≤ 104 then 1 else 0, h) := isIn_c v 97 104 (by decide) (by decide) 97 104 (by decide) (by decide) h
theorem vI_l (v : Int32) (h : hp) : fX14_isIn v.toInt64 97 122 h = some (if 97 ≤ v.toInt ∧ v.toInt ≤ 122 then 1 else 0, h) := isIn_c v 97 122 (by decide) (by decide) 97 122 (by decide) (by decide) h
theorem vOut {h : hp} {k i : Nat} {L : List Int32} (T : TX h k L) (hi : i < L.length) (n : Nat) (s : Int32) (c : L.getD i 0 ≠ 123) : fX14_variablesIn_l7 (n + 1) 165 (iN k) s 0 (iN i) h = fX14_variablesIn_l7 n 165 (iN k) s 0 (iN (i + 1)) h := by
  rw [v_e T hi, if_neg c, ite_self, vK77, if_pos rfl, vK115, if_pos rfl, vK175, if_pos rfl, i_succ]
theorem vCl {h : hp} {k i : Nat} {L : List Int32} (T : TX h k L) (hi : i < L.length) (n : Nat) (s a : Int32) (c : L.getD i 0 = 125) : fX14_variablesIn_l7 (n + 1) 165 (iN k) s a (iN i) h = fX14_variablesIn_l7 n 165 (iN k) s 0 (iN (i + 1)) h := by
  rw [v_e T hi, if_pos c, vK77, if_pos rfl, vK115, if_pos rfl, vK175, if_pos rfl, i_succ]
/-- inside: a sign that is no quote -/
theorem vInn {h : hp} {k i : Nat} {L : List Int32} (T : TX h k L) (hi : i < L.length) (n : Nat) (s : Int32) {a : Int32} (c1 : L.getD i 0 ≠ 125) (c2 : L.getD i 0 ≠ 39) (ha : (if L.getD i 0 = 123 then 1 else a) = 1) (c3 : ¬ (97 ≤ (L.getD i 0).toInt ∧ (L.getD i 0).toInt ≤ 122 ∧ wasL L i = 124)) : fX14_variablesIn_l7 (n + 1) 165 (iN k) s a (iN i) h = fX14_variablesIn_l7 n 165 (iN k) (s ||| if 97 ≤ (L.getD i 0).toInt ∧ (L.getD i 0).toInt ≤ 104 then bitN (L.getD i 0 - 97) else 0) 1 (iN (i + 1)) h := by
  have fin : vK175 n (iN k) s 1 (L.getD i 0) (iN i) h = fX14_variablesIn_l7 n 165 (iN k) (s ||| if 97 ≤ (L.getD i 0).toInt ∧ (L.getD i 0).toInt ≤ 104 then bitN (L.getD i 0 - 97) else 0) 1 (iN (i + 1)) h := by
    rw [vK175, if_neg z10, vI_e, bd2_s, ite10, i_succ]
    by_cases q : 97 ≤ (L.getD i 0).toInt ∧ (L.getD i 0).toInt ≤ 104
    · rw [if_pos q, if_pos q]; rfl
    · rw [if_neg q, if_neg q, Int32.or_zero]
  rw [v_e T hi, if_neg c1, ha, vK77, if_neg z10, if_neg c2, vK115, if_neg z10, vI_l, bd2_s, ite10]
  by_cases q : 97 ≤ (L.getD i 0).toInt ∧ (L.getD i 0).toInt ≤ 122
  · rw [if_pos q, if_neg (fun z => c3 ⟨q.1, q.2, z⟩)]; exact fin
  · rw [if_neg q]; exact fin
theorem v91 {h : hp} {k q : Nat} {L : List Int32} (T : TX h k L) (hq : q < L.length) (c : L.getD q 0 = 39) (x2 x3 x5 x6 : Int32) : ∀ (d i n : Nat), i + d = q → (∀ j, i ≤ j → j < q → L.getD j 0 ≠ 39) → d < n → fX14_variablesIn_l91 n 165 (iN k) x2 x3 (iN i) x5 x6 h = some (iN q, h) := by
  have w := T.1
  intro d
  induction d with
  | zero =>
    intro i n h1 _ hn
    obtain ⟨n, rfl⟩ : ∃ q, n = q + 1 := ⟨n - 1, by omega⟩
    have : i = q := by omega
    subst this
    rw [fX14_variablesIn_l91, MR8 w, Option.bind_some, k160, i_add, T.tx hq, Option.bind_some, if_pos c]
  | succ d ih =>
    intro i n h1 h2 hn
    obtain ⟨n, rfl⟩ : ∃ q, n = q + 1 := ⟨n - 1, by omega⟩
    rw [fX14_variablesIn_l91, MR8 w, Option.bind_some, k160, i_add, T.tx (by omega), Option.bind_some, if_neg (h2 i (Nat.le_refl _) (by omega)), i_succ]
    exact ih (i + 1) n (by omega) (fun j j1 j2 => h2 j (by omega) j2) (by omega)
theorem v141 {h : hp} {k q : Nat} {L : List Int32} (T : TX h k L) (hq : q + 1 < L.length) (c : ¬ isL (L.getD (q + 1) 0) = true) (x2 x3 : Int32) : ∀ (d i n : Nat), i + d = q → (∀ j, i < j → j ≤ q → isL (L.getD j 0) = true) → d < n → fX14_variablesIn_l141 n 165 (iN k) x2 x3 (iN i) h = some (iN q, h) := by
  have w := T.1
  have st : ∀ (i n : Nat), i + 1 < L.length → fX14_variablesIn_l141 (n + 1) 165 (iN k) x2 x3 (iN i) h = if isL (L.getD (i + 1) 0) = true then fX14_variablesIn_l141 n 165 (iN k) x2 x3 (iN (i + 1)) h else some (iN i, h) := by
    intro i n hi
    rw [fX14_variablesIn_l141, MR8 w, Option.bind_some, k160, i_add, i_succ, show 160 * k + i + 1 = 160 * k + (i + 1) by omega, T.tx hi, Option.bind_some, vI_l, bd2_s, ite10]
    by_cases q : isL (L.getD (i + 1) 0) = true
    · rw [if_pos q, if_pos ((isL_i _).mp q), i_succ]
    · rw [if_neg q, if_neg (fun z => q ((isL_i _).mpr z))]
  intro d
  induction d with
  | zero =>
    intro i n h1 _ hn
    obtain ⟨n, rfl⟩ : ∃ q, n = q + 1 := ⟨n - 1, by omega⟩
    have : i = q := by omega
    subst this
    rw [st i n hq, if_neg c]
  | succ d ih =>
    intro i n h1 h2 hn
    obtain ⟨n, rfl⟩ : ∃ q, n = q + 1 := ⟨n - 1, by omega⟩
    rw [st i n (by omega), if_pos (h2 (i + 1) (by omega) (by omega))]
    exact ih (i + 1) n (by omega) (fun j j1 j2 => h2 j (by omega) j2) (by omega)
/-- from a place and a state to others -/
def VS (h : hp) (k p : Nat) (s a : Int32) (q : Nat) (s' a' : Int32) : Prop := p ≤ q ∧ ∃ d, d ≤ q - p ∧ ∀ n, fX14_variablesIn_l7 (n + d) 165 (iN k) s a (iN p) h = fX14_variablesIn_l7 n 165 (iN k) s' a' (iN q) h
theorem VS.rf (h : hp) (k p : Nat) (s a : Int32) : VS h k p s a p s a := ⟨Nat.le_refl _, 0, by omega, fun n => rfl⟩
theorem VS.tr {h : hp} {k p q r : Nat} {s a s' a' s2 a2 : Int32} (x : VS h k p s a q s' a') (y : VS h k q s' a' r s2 a2) : VS h k p s a r s2 a2 := by
  obtain ⟨x1, d, x2, x3⟩ := x
  obtain ⟨y1, e, y2, y3⟩ := y
  refine ⟨by omega, e + d, by omega, fun n => ?_⟩
  rw [show n + (e + d) = (n + e) + d by omega, x3, y3]
theorem VS.one {h : hp} {k p q : Nat} {s a s' a' : Int32} (hq : p < q) (e : ∀ n, fX14_variablesIn_l7 (n + 1) 165 (iN k) s a (iN p) h = fX14_variablesIn_l7 n 165 (iN k) s' a' (iN q) h) : VS h k p s a q s' a' := ⟨by omega, 1, by omega, e⟩
theorem VS.out {h : hp} {k i : Nat} {L : List Int32} (T : TX h k L) (hi : i < L.length) (s : Int32) (c : L.getD i 0 ≠ 123) : VS h k i s 0 (i + 1) s 0 := VS.one (Nat.lt_succ_self i) fun n => vOut T hi n s c
theorem VS.cl {h : hp} {k i : Nat} {L : List Int32} (T : TX h k L) (s a : Int32) (c : hereL L i = 125) : VS h k i s a (i + 1) s 0 := VS.one (Nat.lt_succ_self i) fun n => vCl T (here_lt c (by decide)).1 n s a (here_lt c (by decide)).2
theorem VS.op {h : hp} {k i : Nat} {L : List Int32} (T : TX h k L) (s a : Int32) (c : hereL L i = 123) : VS h k i s a (i + 1) s 1 := by
  obtain ⟨l1, l2⟩ := here_lt c (by decide)
  refine VS.one (Nat.lt_succ_self i) fun n => ?_
  rw [vInn T l1 n s (by rw [l2]; decide) (by rw [l2]; decide) (by rw [if_pos l2]) (fun z => by rw [l2] at z; exact absurd z.2.1 (by decide)), if_neg (fun z => by rw [l2] at z; exact absurd z.2 (by decide)), Int32.or_zero]
/-- a sign inside that is neither quote nor small letter -/
theorem VS.sg {h : hp} {k i : Nat} {L : List Int32} {c : Int32} (T : TX h k L) (s : Int32) (e : hereL L i = c) (hc : c ≠ -1 ∧ c ≠ 123 ∧ c ≠ 125 ∧ c ≠ 39 ∧ ¬ (97 ≤ c.toInt ∧ c.toInt ≤ 122)) : VS h k i s 1 (i + 1) s 1 := by
  obtain ⟨l1, l2⟩ := here_lt e hc.1
  refine VS.one (Nat.lt_succ_self i) fun n => ?_
  rw [vInn T l1 n s (by rw [l2]; exact hc.2.2.1) (by rw [l2]; exact hc.2.2.2.1) (by rw [if_neg (by rw [l2]; exact hc.2.1)]) (fun z => by rw [l2] at z; exact hc.2.2.2.2 ⟨z.1, z.2.1⟩), if_neg (fun z => by rw [l2] at z; exact hc.2.2.2.2 ⟨z.1, by omega⟩), Int32.or_zero]
theorem VS.va {h : hp} {k i v : Nat} {L : List Int32} (T : TX h k L) (s : Int32) (hv : v < 8) (e : hereL L i = iN (97 + v)) (hw : wasL L i ≠ 124) : VS h k i s 1 (i + 1) (s ||| bitN (iN v)) 1 := by
  have t : (iN (97 + v)).toInt = 97 + v := by rw [i_toInt (by omega)]; omega
  have sm : ∀ v, v < 8 → iN (97 + v) ≠ -1 ∧ iN (97 + v) ≠ 123 ∧ iN (97 + v) ≠ 125 ∧ iN (97 + v) ≠ 39 := by decide
  obtain ⟨s1, s2, s3, s4⟩ := sm v hv
  obtain ⟨l1, l2⟩ := here_lt e s1
  refine VS.one (Nat.lt_succ_self i) fun n => ?_
  rw [vInn T l1 n s (by rw [l2]; exact s3) (by rw [l2]; exact s4) (by rw [if_neg (by rw [l2]; exact s2)]) (fun z => hw z.2.2), l2, if_pos (by rw [t]; omega), show (97 : Int32) = iN 97 from rfl, iN_sub (by omega)]
theorem VS.tx {h : hp} {k i q : Nat} {L : List Int32} (T : TX h k L) (s : Int32) (e : hereL L i = 39) (hq : hereL L q = 39) (hiq : i < q) (hn : ∀ j, i < j → j < q → L.getD j 0 ≠ 39) : VS h k i s 1 (q + 1) s 1 := by
  obtain ⟨l1, l2⟩ := here_lt e (by decide)
  obtain ⟨m1, m2⟩ := here_lt hq (by decide)
  have hl := T.2.2.1
  refine VS.one (by omega) fun n => ?_
  rw [v_e T l1, l2, if_neg (by decide), if_neg (by decide), vK77, if_neg z10, if_pos rfl, i_succ, v91 T m1 m2 _ _ _ _ (q - (i + 1)) (i + 1) FU (by omega) (fun j j1 j2 => hn j (by omega) j2) (by show _ < 1000000; omega), bd2_s, vK115, if_neg z10, vI_l, bd2_s, ite10, if_neg (by decide), vK175, if_neg z10, vI_e, bd2_s, ite10, if_neg (by decide), i_succ]
/-- a filter's name -/
theorem VS.nm {h : hp} {k i r : Nat} {L : List Int32} (T : TX h k L) (s : Int32) (hr : 0 < r) (hl : i + r < L.length) (hn : ∀ j, i ≤ j → j < i + r → isL (L.getD j 0) = true) (he : ¬ isL (L.getD (i + r) 0) = true) (hw : wasL L i = 124) : VS h k i s 1 (i + r) s 1 := by
  have hl2 := T.2.2.1
  have q := (isL_i _).mp (hn i (Nat.le_refl _) (by omega))
  have n125 : L.getD i 0 ≠ 125 := fun z => by rw [z, show (125 : Int32).toInt = 125 by decide] at q; omega
  have n123 : L.getD i 0 ≠ 123 := fun z => by rw [z, show (123 : Int32).toInt = 123 by decide] at q; omega
  have n39 : L.getD i 0 ≠ 39 := fun z => by rw [z, show (39 : Int32).toInt = 39 by decide] at q; omega
  refine VS.one (by omega) fun n => ?_
  rw [v_e T (by omega), if_neg n125, if_neg n123, vK77, if_neg z10, if_neg n39, vK115, if_neg z10, vI_l, bd2_s, ite10, if_pos q, if_pos hw, v141 (q := i + r - 1) T (by omega) (by rw [show i + r - 1 + 1 = i + r by omega]; exact he) _ _ (r - 1) i FU (by omega) (fun j j1 j2 => hn j (by omega) (by omega)) (by show _ < 1000000; omega), bd2_s, i_succ, show i + r - 1 + 1 = i + r by omega]
theorem VS.fg {h : hp} {k : Nat} {L : List Int32} (T : TX h k L) (s : Int32) : ∀ (d p acc : Nat), VS h k p s 1 (figs L d p acc).2 s 1 := by
  intro d
  induction d with
  | zero => intro p acc; exact VS.rf _ _ _ _ _
  | succ d ih =>
    intro p acc
    have e1 : figs L (d + 1) p acc = if isF (hereL L p) = true then figs L d (p + 1) (acc * 10 + ((hereL L p).toInt.toNat - 48)) else (acc, p) := rfl
    by_cases q : isF (hereL L p) = true
    · rw [e1, if_pos q]
      have f := (isF_i _).mp q
      refine (VS.sg T s rfl ⟨fun z => ?_, fun z => ?_, fun z => ?_, fun z => ?_, by omega⟩).tr (ih _ _)
      · rw [z, show (-1 : Int32).toInt = -1 by decide] at f; omega
      · rw [z, show (123 : Int32).toInt = 123 by decide] at f; omega
      · rw [z, show (125 : Int32).toInt = 125 by decide] at f; omega
      · rw [z, show (39 : Int32).toInt = 39 by decide] at f; omega
    · rw [e1, if_neg q]; exact VS.rf _ _ _ _ _
theorem VS.pf {h : hp} {k p q v : Nat} {L : List Int32} (T : TX h k L) (s : Int32) (e : pFigs L p = .inl (v, q)) : VS h k p s 1 q s 1 := by
  unfold pFigs at e
  by_cases c : isF (hereL L p) = true
  · rw [if_pos c] at e
    have e2 : (figs L 5 p 0).2 = q := congrArg Prod.snd (Sum.inl.inj e)
    rw [← e2]; exact VS.fg T s 5 p 0
  · rw [if_neg c] at e; cases e
theorem run_max {L : List Int32} : ∀ (d p : Nat), L.length ≤ p + d → ¬ isL (hereL L (p + runL L d p)) = true := by
  intro d
  induction d with
  | zero =>
    intro p hp' z
    have : hereL L (p + runL L 0 p) = -1 := by unfold hereL; rw [if_neg (by have : runL L 0 p = 0 := rfl; omega)]
    rw [this] at z
    exact absurd z (by decide)
  | succ d ih =>
    intro p hp'
    have e1 : runL L (d + 1) p = if isL (hereL L p) = true then runL L d (p + 1) + 1 else 0 := rfl
    by_cases q : isL (hereL L p) = true
    · rw [e1, if_pos q, show p + (runL L d (p + 1) + 1) = p + 1 + runL L d (p + 1) by omega]
      exact ih (p + 1) (by omega)
    · rw [e1, if_neg q]; exact q
theorem fnd_nil : fnd (wordL [] 0 0) = none := by decide +kernel
theorem run_pos {L : List Int32} {p w : Nat} (e : fnd (wordL L p (runL L 160 p)) = some w) : 0 < runL L 160 p := by
  rcases Nat.eq_zero_or_pos (runL L 160 p) with z | z
  · rw [z, show wordL L p 0 = wordL [] 0 0 from rfl, fnd_nil] at e; cases e
  · exact z
theorem was_s {L : List Int32} {p : Nat} {c : Int32} (e : hereL L p = c) (hc : c ≠ -1) : wasL L (p + 1) = c := by
  unfold wasL
  rw [if_neg (Nat.succ_ne_zero p), Nat.add_sub_cancel]
  exact (here_lt e hc).2
theorem VS.fils {h : hp} {k : Nat} {L : List Int32} (T : TX h k L) (s : Int32) : ∀ (n p q : Nat) (fs : List (Nat × Nat)), p ≤ L.length → q < L.length → wasL L p = 124 → pFils L n p = .inl (fs, q) → VS h k p s 1 q s 1 := by
  have hl := T.2.2.1
  intro n
  induction n with
  | zero => intro p q fs _ _ _ e; cases e
  | succ n ih =>
    intro p q fs hp' hq hw e
    obtain ⟨f, p1, s1, e⟩ := bnd_i (show bnd (pFil L p) (fun f p1 => if hereL L p1 = 124 then bnd (pFils L n (p1 + 1)) fun fs p2 => .inl (f :: fs, p2) else .inl ([f], p1)) = .inl (fs, q) from e)
    obtain ⟨a, b, c, f18, r, hr, fr, f1, f2⟩ := fil_i hp' s1
    have hp1q : p1 ≤ q := by
      by_cases z : hereL L p1 = 124
      · rw [if_pos z] at e
        obtain ⟨fs2, p2, s2, e⟩ := bnd_i e
        have e3 : p2 = q := congrArg Prod.snd (Sum.inl.inj e)
        have := (fils_i n (p1 + 1) p2 fs2 (here_lt z (by decide)).1 s2).2.1
        omega
      · rw [if_neg z] at e
        have e3 : p1 = q := congrArg Prod.snd (Sum.inl.inj e)
        omega
    have hpr : p + r ≤ p1 := by
      by_cases c13 : f.1 < 13
      · exact Nat.le_of_eq (f1 c13).2.symm
      · have := (figs_i (f2 c13).2).2.1; omega
    have rmax := run_max (L := L) 160 p (by omega)
    have rall := run_all (L := L) 160 p
    rw [← hr] at rmax rall
    have hg : L.getD (p + r) 0 = hereL L (p + r) := by unfold hereL; rw [if_pos (by omega)]
    have nm := VS.nm T s (by rw [hr] at fr ⊢; exact run_pos fr) (show p + r < L.length by omega) (fun j j1 j2 => rall j j1 j2) (by rw [hg]; exact rmax) hw
    have one : VS h k p s 1 p1 s 1 := by
      by_cases c13 : f.1 < 13
      · rw [(f1 c13).2]; exact nm
      · obtain ⟨g1, g2⟩ := f2 c13
        exact (nm.tr (VS.sg T s g1 (by decide))).tr (VS.pf T s g2)
    by_cases z : hereL L p1 = 124
    · rw [if_pos z] at e
      obtain ⟨fs2, p2, s2, e⟩ := bnd_i e
      have e3 : p2 = q := congrArg Prod.snd (Sum.inl.inj e)
      subst e3
      exact (one.tr (VS.sg T s z (by decide))).tr (ih (p1 + 1) p2 fs2 (here_lt z (by decide)).1 hq (was_s z (by decide)) s2)
    · rw [if_neg z] at e
      have e3 : p1 = q := congrArg Prod.snd (Sum.inl.inj e)
      rw [← e3]; exact one
theorem VS.ex {h : hp} {k p q : Nat} {L : List Int32} {e : EX} (T : TX h k L) (s : Int32) (hq : q < L.length) (hw : wasL L p ≠ 124) (x : pExpr L p = .inl (e, q)) : VS h k p s 1 q (s ||| varsE e) 1 := by
  obtain ⟨_, hpq, _, e0, p1, a, hp1, fl⟩ := expr_i x
  obtain ⟨_, ap, ale, _, ak⟩ := atom_i a
  have at' : VS h k p s 1 p1 (s ||| varsE e0) 1 ∧ e0.1 = e.1 ∧ e0.2.1 = e.2.1 := by
    refine ⟨?_, ?_⟩
    · rcases ak with ⟨v, v1, v2, v3, v4⟩ | ⟨b1, b2', b3⟩ | ⟨b1, b2', b3, b4⟩ | ⟨v, b1, b2', b3⟩ | ⟨v, b1, b2', b3⟩
      · rw [v3, v4]; exact VS.va T s v1 v2 hw
      · rw [b2', b3]
        show VS h k p s 1 (p + 1) (s ||| 0) 1
        rw [Int32.or_zero]; exact VS.sg T s b1 (by decide)
      · rw [b3, b4]
        show VS h k p s 1 _ (s ||| 0) 1
        rw [Int32.or_zero, show p + 2 + runT L 16 (p + 1) = p + 1 + runT L 16 (p + 1) + 1 by omega]
        exact VS.tx T s b1 b2' (by omega) fun j j1 j2 => ((isT_i _).mp (runT_all 16 (p + 1) j (by omega) j2)).2.1
      · rw [b3]
        show VS h k p s 1 p1 (s ||| 0) 1
        rw [Int32.or_zero]
        exact (VS.sg T s b1 (by decide)).tr (VS.pf T s b2')
      · rw [b3]
        show VS h k p s 1 p1 (s ||| 0) 1
        rw [Int32.or_zero]
        exact VS.pf T s b2'
    · rcases fl with ⟨_, z, _⟩ | ⟨fs, _, _, z⟩
      · rw [z]; exact ⟨rfl, rfl⟩
      · rw [z]; exact ⟨rfl, rfl⟩
  have ve : varsE e = varsE e0 := by unfold varsE; rw [at'.2.1, at'.2.2]
  rw [ve]
  rcases fl with ⟨_, _, z⟩ | ⟨fs, g1, g2, _⟩
  · rw [z]; exact at'.1
  · exact (at'.1.tr (VS.sg T _ g1 (by decide))).tr (VS.fils T _ 161 (p1 + 1) q fs (here_lt g1 (by decide)).1 hq (was_s g1 (by decide)) g2)
theorem VS.sm {h : hp} {k p lo v n : Nat} {L : List Int32} (T : TX h k L) (s : Int32) (e : hereL L p = iN (lo + v)) (hv : v < n) (hn : 40 ≤ lo ∧ lo + n ≤ 97) : VS h k p s 1 (p + 1) s 1 := by
  have t : (iN (lo + v)).toInt = lo + v := by rw [i_toInt (by omega)]; omega
  refine VS.sg T s e ⟨fun z => ?_, fun z => ?_, fun z => ?_, fun z => ?_, by omega⟩
  · rw [z, show (-1 : Int32).toInt = -1 by decide] at t; omega
  · rw [z, show (123 : Int32).toInt = 123 by decide] at t; omega
  · rw [z, show (125 : Int32).toInt = 125 by decide] at t; omega
  · rw [z, show (39 : Int32).toInt = 39 by decide] at t; omega
def hdV {m : Nat} (pc : PD (TY m)) : Int32 := (if pc.1 = 3 ∨ pc.1 = 7 then bitN pc.2.2.1 else 0) ||| varsE pc.2.2.2.2.1 ||| varsE pc.2.2.2.2.2.1
theorem VS.hd {h : hp} {k m p b : Nat} {L : List Int32} {pc : PD (TY m)} (T : TX h k L) (s : Int32) (H : HdP L p b pc) : VS h k p s 0 b (s ||| hdV pc) 0 := by
  have hl := hd_len H
  obtain ⟨⟨h1, h2, h3, h4, h5⟩, h6, h7⟩ := H
  have cl : ∀ s, VS h k (b - 1) s 1 b s 0 := fun s => by
    have z := VS.cl T s 1 h4
    rwa [show b - 1 + 1 = b by omega] at z
  have op := VS.op T s 0 h1
  have w1 : wasL L (p + 1) ≠ 124 := by rw [was_s h1 (by decide)]; decide
  unfold hdV
  rcases h7 with ⟨k1, _, _, _, _, _, _, k2, k3⟩ | ⟨k1, k2, k3⟩ | ⟨k1, k2, ⟨v, v1, v2, v3⟩, k3, k4, k5⟩ | ⟨k1, k2, ⟨v, v1, v2, v3⟩, k3, k4, k5⟩ | ⟨k1, k2, k3, k4, k5⟩ | ⟨k1, k2, ⟨v, v1, v2, v3⟩, k3, k4, k5⟩ | ⟨k1, k2, ⟨v, v1, v2, v3⟩, k3, k4, k5⟩
  · rw [if_neg (by omega), k3, eN_vars, Int32.zero_or, Int32.or_zero]
    exact (op.tr (VS.ex T s (by omega) w1 k2)).tr (cl _)
  · rw [if_neg (by omega), Int32.zero_or]
    have a := op.tr (VS.sg T s k2 (by decide))
    have w2 : wasL L (p + 2) ≠ 124 := by rw [was_s k2 (by decide)]; decide
    obtain ⟨_, _, _, cc⟩ := cond_i k3
    rcases cc with ⟨c1, c2, c3, c4⟩ | ⟨c1, c2, c3, c4, _⟩ | ⟨p1, c1, c2, c3, c4⟩
    · rw [c4, eN_vars, Int32.or_zero]
      exact ((a.tr (VS.sg T s c2 (by decide))).tr (VS.ex T s (by omega) (by rw [was_s c2 (by decide)]; decide) c3)).tr (cl _)
    · rw [c4, eN_vars, Int32.or_zero]
      exact (a.tr (VS.ex T s (by omega) w2 c3)).tr (cl _)
    · have hp1 := (expr_i c4).2.1
      have x1 := a.tr (VS.ex T s (show p1 < L.length by omega) w2 c2)
      rw [← Int32.or_assoc]
      rcases c3 with c3 | c3
      · exact ((x1.tr (VS.sg T _ c3.2 (by decide))).tr (VS.ex T _ (by omega) (by rw [was_s c3.2 (by decide)]; decide) c4)).tr (cl _)
      · exact ((x1.tr (VS.sg T _ c3.2 (by decide))).tr (VS.ex T _ (by omega) (by rw [was_s c3.2 (by decide)]; decide) c4)).tr (cl _)
  · rw [if_pos (.inl k1), k5, eN_vars, Int32.or_zero, v3, ← Int32.or_assoc]
    have a := (op.tr (VS.sg T s k2 (by decide))).tr (VS.va T s v1 v2 (by rw [was_s k2 (by decide)]; decide))
    exact ((a.tr (VS.sg T _ k3 (by decide))).tr (VS.ex T _ (by omega) (by rw [was_s k3 (by decide)]; decide) k4)).tr (cl _)
  · rw [if_neg (by omega), k4, k5, eN_vars, Int32.or_zero, Int32.or_zero, Int32.or_zero]
    have z := ((op.tr (VS.sg T s k2 (by decide))).tr (VS.sm T s v2 v1 (by decide)))
    have y := cl s
    rw [show b - 1 = p + 1 + 1 + 1 by omega] at y
    exact z.tr y
  · rw [if_neg (by omega), k4, k5, eN_vars, Int32.or_zero, Int32.or_zero, Int32.or_zero]
    have z := op.tr (VS.sg T s k2 (by decide))
    have y := cl s
    rw [show b - 1 = p + 1 + 1 by omega] at y
    exact z.tr y
  · rw [if_neg (by omega), k4, k5, eN_vars, Int32.or_zero, Int32.or_zero, Int32.or_zero]
    have z := ((op.tr (VS.sg T s k2 (by decide))).tr (VS.sm T s v2 v1 (by decide)))
    have y := cl s
    rw [show b - 1 = p + 1 + 1 + 1 by omega] at y
    exact z.tr y
  · rw [if_pos (.inr k1), k5, eN_vars, Int32.or_zero, v3, ← Int32.or_assoc]
    have a := (op.tr (VS.sg T s k2 (by decide))).tr (VS.va T s v1 v2 (by rw [was_s k2 (by decide)]; decide))
    exact ((a.tr (VS.sg T _ k3 (by decide))).tr (VS.ex T _ (by omega) (by rw [was_s k3 (by decide)]; decide) k4)).tr (cl _)
theorem VS.en {h : hp} {k e0 : Nat} {L : List Int32} {c : Int32} (T : TX h k L) (s : Int32) (g1 : hereL L e0 = 123) (g2 : hereL L (e0 + 1) = c) (gc : c = 47 ∨ c = 58) (g3 : hereL L (e0 + 2) = 125) : VS h k e0 s 0 (e0 + 3) s 0 :=
  ((VS.op T s 0 g1).tr (VS.sg T s g2 (by rcases gc with z | z <;> rw [z] <;> decide))).tr (VS.cl T s 1 g3)
theorem pcs_vs {h : hp} {k : Nat} {L : List Int32} (T : TX h k L) : ∀ (n m : Nat) (blk : Bool) (p q : Nat) (t : TY (m + 1)), m ≤ 4 → p ≤ L.length → pPcs L n m blk p = .inl (t, q) → ∀ s, VS h k p s 0 q (s ||| varsT (m + 1) t) 0 := by
  intro n m blk p q t hm hp' e
  have vc : ∀ {m : Nat} (pc : PD (TY m)) (t : TY (m + 1)), varsT (m + 1) (tCons pc t) = (hdV pc ||| varsT m pc.2.2.2.2.2.2.1 ||| varsT m pc.2.2.2.2.2.2.2 ||| varsT (m + 1) t) := fun _ _ => rfl
  refine (pcs_ind (L := L) (fun m p t q => ∀ s, VS h k p s 0 q (s ||| varsT (m + 1) t) 0) ?_ ?_ ?_ ?_ ?_ n m blk p q t hm hp' e).2.2
  · intro m p _ _ s
    show VS h k p s 0 p (s ||| 0) 0
    rw [Int32.or_zero]; exact VS.rf _ _ _ _ _
  · intro m p t q h1 h2 h3 ih s
    have n1 : L.getD p 0 ≠ 123 := by
      unfold hereL at h2
      rw [if_pos h1] at h2
      exact h2
    rw [vc]
    show VS h k p s 0 q (s ||| (0 ||| 0 ||| 0 ||| varsT m (tyN m) ||| varsT m (tyN m) ||| varsT (m + 1) t)) 0
    rw [vars_nil, show ((0 : Int32) ||| 0 ||| 0 ||| 0 ||| 0) = 0 by decide, Int32.zero_or]
    exact (VS.out T h1 s n1).tr (ih s)
  · intro m p b pc t q H _ e1 e2 ih s
    rw [vc, e1, e2, vars_nil, Int32.or_zero, Int32.or_zero, ← Int32.or_assoc]
    exact (VS.hd T s H).tr (ih _)
  · intro m p b pc t e0 q _ H hk _ ih1 h1 h2 h3 h4 h5 e2 ih2 s
    rw [vc, e2, vars_nil, Int32.or_zero, ← Int32.or_assoc, ← Int32.or_assoc]
    exact (((VS.hd T s H).tr (ih1 _)).tr (VS.en T _ h3 h4 (.inl rfl) h5)).tr (ih2 _)
  · intro m p b pc t e0 e1 q _ H hk ih1 h1 h2 h3 h4 h5 ih2 k1 k2 k3 k4 k5 ih3 s
    rw [vc, ← Int32.or_assoc, ← Int32.or_assoc, ← Int32.or_assoc]
    exact (((((VS.hd T s H).tr (ih1 _)).tr (VS.en T _ h3 h4 (.inr rfl) h5)).tr (ih2 _)).tr (VS.en T _ k3 k4 (.inl rfl) k5)).tr (ih3 _)

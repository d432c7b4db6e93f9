/-! the reference's recognizer: names of filters, filters -/
def nmK : List Nat := [1, 4, 8, 12, 16, 21, 27, 31, 36, 41, 47, 52, 56, 61, 65, 69, 73, 77, 80]
def nmW (q : Nat) : List Int32 := sWl.getD (fa q - 1) []
def nmA : List Int32 := sWl.getD 18 []
theorem nm_tab : nmA.length = 80 ∧ ∀ q, q < 18 → nmK.getD q 0 + (nmW q).length + 1 = nmK.getD (q + 1) 0 ∧ 0 < (nmW q).length ∧ nmK.getD q 0 + (nmW q).length < 80 ∧ nmA.getD (nmK.getD q 0 + (nmW q).length) 0 = 32 ∧ ∀ i, i < (nmW q).length → nmA.getD (nmK.getD q 0 + i) 0 = (nmW q).getD i 0 ∧ (nmW q).getD i 0 ≠ 32 := by decide +kernel
theorem nm_at {i : Nat} (hi : i < 80) (h : hp) : fJ0_charAt_5068e 39 (iN i) h = some (nmA.getD i 0, h) := str_at (a := 18) (by decide) (by rw [show (sWl.getD 18 []).length = 80 from nm_tab.1]; exact hi) h
theorem ck39 : ckS 39 = some () := ckS_e (a := 18) (by decide)
/-- what the reference reads, however long it is told to be -/
def MXo (h : hp) (S off : Nat) (L : List Int32) : Prop := WF h ∧ hR h 165 11 = S ∧ hI h 165 12 = iN off ∧ (∃ n, hT h S = (100, n) ∧ off + L.length ≤ n ∧ n ≤ 20000) ∧ (∀ k, k < L.length → hI h S (off + k) = L.getD k 0) ∧ L.length ≤ 160
theorem MX.o {h : hp} {S off : Nat} {L : List Int32} (X : MX h S off L) : MXo h S off L := by
  obtain ⟨w, x1, x2, x3, x4, x5, x6, x7, x8⟩ := X
  exact ⟨w, x1, x2, x4, x6, x8⟩
theorem src_o {h : hp} {S off q : Nat} {L : List Int32} (X : MXo h S off L) (hq : q < L.length) : alI h S (iN (off + q)) = some (L.getD q 0) := by
  obtain ⟨w, x1, x2, ⟨n, t, b, c⟩, x6, x8⟩ := X
  rw [al_e t (by omega) c, x6 q hq]
/-- how far a name goes along -/
theorem l18_m {h : hp} {S off L} (X : MXo h S off L) {q p t : Nat} (hq : q < 18) (ht : t ≤ L.length) (hL : ∀ j, p ≤ j → j < t → isL (L.getD j 0) = true) : ∀ (d i f : Nat), p + i + d = t → i ≤ (nmW q).length → (∀ j, j < i → L.getD (p + j) 0 = (nmW q).getD j 0) → d < f → ∃ i', fX14_nameAt_l18 f 165 (iN p) (iN t) (iN q) (iN (nmK.getD q 0)) (iN i) h = some (iN i', h) ∧ i' ≤ (nmW q).length ∧ p + i' ≤ t ∧ (∀ j, j < i' → L.getD (p + j) 0 = (nmW q).getD j 0) ∧ (p + i' < t → i' = (nmW q).length ∨ L.getD (p + i') 0 ≠ (nmW q).getD i' 0) := by
  have w := X.1
  have hl := X.2.2.2.2.2
  obtain ⟨s1, s2, s3, s4, s5⟩ := nm_tab.2 q hq
  have X' := X
  obtain ⟨_, x1, x2, ⟨nn, tt, bb, cc⟩, _, _⟩ := X'
  intro d
  induction d with
  | zero =>
    intro i f hi h1 h2 hf
    obtain ⟨f, rfl⟩ : ∃ q, f = q + 1 := ⟨f - 1, by omega⟩
    rw [fX14_nameAt_l18, i_add, if_pos (by rw [i_le (by omega) (by omega)]; omega)]
    exact ⟨i, rfl, h1, by omega, h2, fun c => by omega⟩
  | succ d ih =>
    intro i f hi h1 h2 hf
    obtain ⟨f, rfl⟩ : ∃ q, f = q + 1 := ⟨f - 1, by omega⟩
    have hlt : p + i < L.length := by omega
    have e : fX14_nameAt_l18 (f + 1) 165 (iN p) (iN t) (iN q) (iN (nmK.getD q 0)) (iN i) h = if nmA.getD (nmK.getD q 0 + i) 0 = L.getD (p + i) 0 then fX14_nameAt_l18 f 165 (iN p) (iN t) (iN q) (iN (nmK.getD q 0)) (iN (i + 1)) h else some (iN i, h) := by
      rw [fX14_nameAt_l18, i_add, if_neg (by rw [i_le (by omega) (by omega)]; omega), ck39, Option.bind_some, i_add, nm_at (by omega), bd2_s, gSrc w, Option.bind_some, gM w, Option.bind_some, x1, x2, i_add, i_add, show off + p + i = off + (p + i) by omega, src_o X hlt, Option.bind_some, i_succ]
    rw [e]
    by_cases c : i = (nmW q).length
    · have ne : ¬ (nmA.getD (nmK.getD q 0 + i) 0 = L.getD (p + i) 0) := fun z => by
        rw [c, s4] at z
        have := hL (p + i) (by omega) (by omega)
        rw [c, ← z] at this
        exact absurd this (by decide)
      rw [if_neg ne]
      exact ⟨i, rfl, h1, by omega, h2, fun _ => .inl c⟩
    · have hi' : i < (nmW q).length := by omega
      rw [(s5 i hi').1]
      by_cases ce : (nmW q).getD i 0 = L.getD (p + i) 0
      · rw [if_pos ce]
        exact ih (i + 1) f (by omega) (by omega) (fun j hj => by
          by_cases cj : j = i
          · rw [cj]; exact ce.symm
          · exact h2 j (by omega)) (by omega)
      · rw [if_neg ce]
        exact ⟨i, rfl, h1, by omega, h2, fun _ => .inr fun z => ce z.symm⟩
/-- to the space behind a name -/
theorem l89_m {h : hp} {q : Nat} (hq : q < 18) (x1 x2 x3 : Int32) : ∀ (d i f : Nat), i + d = (nmW q).length → d < f → fX14_nameAt_l89 f 165 x1 x2 x3 (iN (nmK.getD q 0 + i)) h = some (iN (nmK.getD q 0 + (nmW q).length), h) := by
  obtain ⟨s1, s2, s3, s4, s5⟩ := nm_tab.2 q hq
  intro d
  induction d with
  | zero =>
    intro i f hi hf
    obtain ⟨f, rfl⟩ : ∃ q, f = q + 1 := ⟨f - 1, by omega⟩
    have : i = (nmW q).length := by omega
    subst this
    rw [fX14_nameAt_l89, ck39, Option.bind_some, nm_at (by omega), bd2_s, s4, if_pos rfl]
  | succ d ih =>
    intro i f hi hf
    obtain ⟨f, rfl⟩ : ∃ q, f = q + 1 := ⟨f - 1, by omega⟩
    obtain ⟨a, b⟩ := s5 i (by omega)
    rw [fX14_nameAt_l89, ck39, Option.bind_some, nm_at (by omega), bd2_s, a, if_neg b, i_succ, Nat.add_assoc]
    exact ih (i + 1) f (by omega) (by omega)
theorem wrd_nm {L : List Int32} {p n q : Nat} (e : (nmW q).length = n) (f : ∀ j, j < n → L.getD (p + j) 0 = (nmW q).getD j 0) : nmW q = wordL L p n := by
  apply list_eq
  · rw [wrd_len]; exact e
  · intro j hj
    rw [wrd_at L p n j (by omega), f j (by omega)]
/-- the first of the names from one on that a word is -/
def fndF (w : List Int32) : Nat → Nat → Option Nat
  | 0, _ => none
  | d + 1, q => if nmW q = w then some q else fndF w d (q + 1)
theorem fnd_e (w : List Int32) : fnd w = fndF w 18 0 := by
  have : ∀ (d q : Nat), (List.range' q d).find? (fun q => decide (sWl.getD (fa q - 1) [] = w)) = fndF w d q := by
    intro d
    induction d with
    | zero => intro q; rfl
    | succ d ih =>
      intro q
      rw [List.range'_succ, List.find?_cons]
      show _ = if nmW q = w then some q else fndF w d (q + 1)
      by_cases c : nmW q = w
      · rw [if_pos c, decide_eq_true (show sWl.getD (fa q - 1) [] = w from c)]
      · rw [if_neg c, decide_eq_false (show ¬ sWl.getD (fa q - 1) [] = w from c)]
        exact ih (q + 1)
  unfold fnd
  rw [List.range_eq_range']
  exact this 18 0
def oI (o : Option Nat) : Int32 := match o with
  | none => -1
  | some q => iN q
theorem l5_m {h : hp} {S off L} (X : MXo h S off L) {p t : Nat} (hp' : p ≤ t) (ht : t ≤ L.length) (hL : ∀ j, p ≤ j → j < t → isL (L.getD j 0) = true) : ∀ (d q f : Nat), q + d = 18 → d < f → (bd3 (fX14_nameAt_l5 f 165 (iN p) (iN t) (iN q) (iN (nmK.getD q 0)) h) fun t4 v3 h2 => if t4 = 0 then some (v3, h2) else if t4 = 1 then some ((-1), h2) else none) = some (oI (fndF (wordL L p (t - p)) d q), h) := by
  have hl := X.2.2.2.2.2
  have len39 : fJ0_length_8abf5 39 h = some (iN 80, h) := by
    have e := str_len (a := 18) (by decide) h
    rw [show (sWl.getD 18 []).length = 80 from nm_tab.1] at e
    exact e
  intro d
  induction d with
  | zero =>
    intro q f hq hf
    obtain ⟨f, rfl⟩ : ∃ q, f = q + 1 := ⟨f - 1, by omega⟩
    have : q = 18 := by omega
    subst this
    rw [fX14_nameAt_l5, ck39, Option.bind_some, len39, bd2_s, if_pos (by decide)]
    rfl
  | succ d ih =>
    intro q f hq hf
    obtain ⟨f, rfl⟩ : ∃ q, f = q + 1 := ⟨f - 1, by omega⟩
    have hq18 : q < 18 := by omega
    obtain ⟨s1, s2, s3, s4, s5⟩ := nm_tab.2 q hq18
    obtain ⟨i, e18, a1, a2, a3, a4⟩ := l18_m X hq18 ht hL (t - p) 0 FU (by omega) (Nat.zero_le _) (fun j hj => by omega) (by show _ < 1000000; omega)
    have e89 := l89_m (h := h) hq18 (iN p) (iN t) (iN q) (nmW q).length 0 FU (by omega) (by show _ < 1000000; omega)
    rw [Nat.add_zero] at e89
    have hf1 : fndF (wordL L p (t - p)) (d + 1) q = if nmW q = wordL L p (t - p) then some q else fndF (wordL L p (t - p)) d (q + 1) := rfl
    have go : ¬ nmW q = wordL L p (t - p) → (bd3 (bd2 (fX14_nameAt_l89 FU 165 (iN p) (iN t) (iN q) (iN (nmK.getD q 0)) h) fun v10 h9 => fX14_nameAt_l5 f 165 (iN p) (iN t) (iN q + 1) (v10 + 1) h9) fun t4 v3 h2 => if t4 = 0 then some (v3, h2) else if t4 = 1 then some ((-1), h2) else none) = some (oI (fndF (wordL L p (t - p)) (d + 1) q), h) := by
      intro ne
      rw [hf1, if_neg ne, e89, bd2_s, i_succ, i_succ, s1]
      exact ih (q + 1) f (by omega) (by omega)
    have c80 : ¬ (iN 80 ≤ iN (nmK.getD q 0)) := by rw [i_le (by omega) (by omega)]; omega
    rw [fX14_nameAt_l5, ck39, Option.bind_some, len39, bd2_s, if_neg c80, show (0 : Int32) = iN 0 from rfl, e18, bd2_s]
    simp only [jn_e]
    by_cases c0 : i = 0
    · rw [if_pos (by rw [i_le (by omega) (by omega)]; omega)]
      refine go fun z => ?_
      have hz : (nmW q).length = t - p := by rw [z, wrd_len]
      rcases a4 (by omega) with c | c
      · omega
      · refine c ?_
        rw [c0, z, wrd_at L p (t - p) 0 (by omega)]
    · rw [if_neg (by rw [i_le (by omega) (by omega)]; omega), i_add]
      by_cases ct : p + i = t
      · rw [if_pos (by rw [ct]), Option.bind_some, i_add, nm_at (by omega), bd2_s]
        by_cases cl : i = (nmW q).length
        · rw [cl, s4, if_pos rfl]
          have : nmW q = wordL L p (t - p) := wrd_nm (by omega) fun j hj => a3 j (by omega)
          rw [hf1, if_pos this]
          rfl
        · have := (s5 i (by omega))
          rw [if_neg (by rw [this.1]; exact this.2)]
          refine go fun z => ?_
          have hz : (nmW q).length = t - p := by rw [z, wrd_len]
          omega
      · rw [if_neg (by rw [i_eq (by omega) (by omega)]; exact ct)]
        refine go fun z => ?_
        have hz : (nmW q).length = t - p := by rw [z, wrd_len]
        rcases a4 (by omega) with c | c
        · omega
        · refine c ?_
          rw [z, wrd_at L p (t - p) i (by omega)]
theorem nameAt_m {h : hp} {S off L} (X : MXo h S off L) {p t : Nat} (hp' : p ≤ t) (ht : t ≤ L.length) (hL : ∀ j, p ≤ j → j < t → isL (L.getD j 0) = true) : fX14_nameAt 165 (iN p) (iN t) h = some (oI (fnd (wordL L p (t - p))), h) := by
  have e := l5_m X hp' ht hL 18 0 FU rfl (by show 18 < 1000000; omega)
  rw [fnd_e]
  exact e
theorem run_all {L : List Int32} : ∀ (d p j : Nat), p ≤ j → j < p + runL L d p → isL (L.getD j 0) = true := by
  intro d
  induction d with
  | zero => intro p j h1 h2; have : runL L 0 p = 0 := rfl; omega
  | succ d ih =>
    intro p j h1 h2
    have e1 : runL L (d + 1) p = if isL (hereL L p) = true then runL L d (p + 1) + 1 else 0 := rfl
    by_cases q : isL (hereL L p) = true
    · rw [if_pos q] at e1
      have hlt := here_in (by decide) q
      by_cases c : j = p
      · rw [c]; unfold hereL at q; rw [if_pos hlt] at q; exact q
      · exact ih (p + 1) j (by omega) (by omega)
    · rw [if_neg q] at e1; omega
theorem nameH_l {S off c : Nat} {L : List Int32} (x1 : Int32) : ∀ (d p n : Nat) (h : hp), MX h S off L → MP h p c → p ≤ L.length → L.length ≤ p + d → d < n → ∃ h', fX14_nameHere_l5 n 165 x1 h = some h' ∧ MS h h' ∧ MP h' (p + runL L d p) c := by
  intro d
  induction d with
  | zero =>
    intro p n h X m hp' hd hn
    have w := X.1
    have hl := X.2.2.2.2.2.2.2.2
    obtain ⟨n, rfl⟩ : ∃ q, n = q + 1 := ⟨n - 1, by omega⟩
    have hh : hereL L p = -1 := by unfold hereL; rw [if_neg (by omega)]
    rw [fX14_nameHere_l5, ckM w, Option.bind_some, here_m X m (by omega), bd2_s, hh, isIn_c _ 97 122 (by decide) (by decide) 97 122 (by decide) (by decide), bd2_s, ite10, if_neg (by decide)]
    exact ⟨h, rfl, FS.rf _ _, m⟩
  | succ d ih =>
    intro p n h X m hp' hd hn
    have w := X.1
    have hl := X.2.2.2.2.2.2.2.2
    obtain ⟨n, rfl⟩ : ∃ q, n = q + 1 := ⟨n - 1, by omega⟩
    have e1 : runL L (d + 1) p = if isL (hereL L p) = true then runL L d (p + 1) + 1 else 0 := rfl
    rw [fX14_nameHere_l5, ckM w, Option.bind_some, here_m X m (by omega), bd2_s, isIn_c _ 97 122 (by decide) (by decide) 97 122 (by decide) (by decide), bd2_s, ite10, e1]
    by_cases q : isL (hereL L p) = true
    · have hlt := here_in (by decide) q
      rw [if_pos q, if_pos (show ((97 : Nat) : Int) ≤ (hereL L p).toInt ∧ (hereL L p).toInt ≤ ((122 : Nat) : Int) by rw [isL_i] at q; omega), gM w, Option.bind_some, pM w, Option.bind_some, m.1, i_succ]
      obtain ⟨h', a1, a2, a3⟩ := ih (p + 1) n _ (X.fs (MS.at _)) (m.at (p + 1)) hlt (by omega) (by omega)
      exact ⟨h', a1, (MS.at _).tr a2, by rw [show p + (runL L d (p + 1) + 1) = p + 1 + runL L d (p + 1) by omega]; exact a3⟩
    · rw [if_neg q, if_neg (show ¬ (((97 : Nat) : Int) ≤ (hereL L p).toInt ∧ (hereL L p).toInt ≤ ((122 : Nat) : Int)) by rw [isL_i] at q; omega)]
      exact ⟨h, rfl, FS.rf _ _, m⟩
theorem nameH_m {h : hp} {S off p c : Nat} {L : List Int32} (X : MX h S off L) (m : MP h p c) (hp' : p ≤ L.length) : ∃ h', fX14_nameHere 165 h = some (oI (fnd (wordL L p (runL L 160 p))), h') ∧ MS h h' ∧ MP h' (p + runL L 160 p) c := by
  have w := X.1
  have hl := X.2.2.2.2.2.2.2.2
  obtain ⟨h', a1, a2, a3⟩ := nameH_l (S := S) (off := off) (c := c) (iN p) 160 p FU h X m hp' (by omega) (by show 160 < 1000000; omega)
  have X' := X.fs a2
  have hr := (run_le 160 p hp').1
  unfold fX14_nameHere
  rw [gM w, Option.bind_some, m.1, a1, Option.bind_some, gM X'.1, Option.bind_some, a3.1, ckM X'.1, Option.bind_some, nameAt_m X'.o (Nat.le_add_right _ _) hr (fun j h1 h2 => run_all 160 p j h1 h2), bd2_s, Nat.add_sub_cancel_left]
  exact ⟨h', rfl, a2, a3⟩
theorem fnd_lt {w : List Int32} {q : Nat} (e : fnd w = some q) : q < 18 := by
  unfold fnd at e
  exact List.mem_range.mp (List.mem_of_find?_eq_some e)
theorem fil_m {h : hp} {S off p c : Nat} {L : List Int32} (X : MX h S off L) (m : MP h p c) (hp' : p ≤ L.length) : MB L h p (pFil L p) (fun _ => c) (fX14_isFilterRead 165 h) := by
  have w := X.1
  have hl := X.2.2.2.2.2.2.2.2
  obtain ⟨h', a1, a2, a3⟩ := nameH_m X m hp'
  have X' := X.fs a2
  have hr := (run_le 160 p hp').1
  unfold fX14_isFilterRead pFil
  rw [gM w, Option.bind_some, m.1, ckM w, Option.bind_some, a1, bd2_s]
  cases hq : fnd (wordL L p (runL L 160 p)) with
  | none =>
    show MB L h p (.inr p) _ (if 0 ≤ (-1 : Int32) then _ else _)
    rw [if_neg n0_le, ckM X'.1, Option.bind_some]
    exact (MB.no X' a3 _ (by omega)).up a2 (Nat.le_add_right _ _)
  | some q =>
    have hq18 := fnd_lt hq
    show MB L h p (if q < 13 then .inl ((q, 0), p + runL L 160 p) else _) _ (if 0 ≤ iN q then _ else _)
    rw [if_pos (i0_le q (by omega))]
    by_cases c13 : q < 13
    · rw [if_pos c13, if_pos (show oI (some q) < 13 by show iN q < 13; rw [i_lt_lit (by decide) (by omega)]; exact c13)]
      exact (MB.yes a3 hr (d := fun _ => c) _ rfl).up a2 (Nat.le_add_right _ _)
    · rw [if_neg c13, if_neg (show ¬ oI (some q) < 13 by show ¬ iN q < 13; rw [i_lt_lit (by decide) (by omega)]; exact c13), ckM X'.1, Option.bind_some]
      refine (MB.bd X' (sign_m X' a3 hr (by decide)) fun _ p1 h1 X1 m1 hp1 hp2 => ?_).up a2 (Nat.le_add_right _ _)
      rw [ckM X1.1, Option.bind_some]
      exact MB.bd X1 (figs_m X1 m1 hp2) fun k p2 h2 X2 m2 hp3 hp4 => MB.yes m2 hp4 _ rfl
/-- filters one behind the other -/
theorem fils_l {S off c : Nat} {L : List Int32} : ∀ (n p f : Nat) (h : hp), MX h S off L → MP h p c → p ≤ L.length → L.length - p < n → L.length - p < f → MB L h p (if hereL L p = 124 then pFils L n (p + 1) else .inl ([], p)) (fun _ => c) (bd2 (fX14_isExpressionRead_l82 f 165 h) fun t7 h6 => if t7 = 0 then some (0, h6) else if t7 = 1 then some (1, h6) else none) := by
  intro n
  induction n with
  | zero => intro p f h _ _ _ q; omega
  | succ n ih =>
    intro p f h X m hp' hn hf
    have w := X.1
    have hl := X.2.2.2.2.2.2.2.2
    obtain ⟨f, rfl⟩ : ∃ q, f = q + 1 := ⟨f - 1, by omega⟩
    rw [fX14_isExpressionRead_l82, ckM w, Option.bind_some, here_m X m (by omega), bd2_s]
    by_cases q : hereL L p = 124
    · obtain ⟨l1, _⟩ := here_lt q (by decide)
      rw [if_pos q, if_pos q, gM w, Option.bind_some, pM w, Option.bind_some, m.1, i_succ, ckM (X.fs (MS.at _)).1, Option.bind_some]
      have X1 := X.fs (MS.at (iN (p + 1)))
      have m1 := m.at (p + 1)
      refine MB.up (h1 := pI h 165 14 (iN (p + 1))) (p1 := p + 1) ?_ (MS.at _) (Nat.le_succ p)
      show MB L _ _ (bnd (pFil L (p + 1)) fun f p1 => if hereL L p1 = 124 then bnd (pFils L n (p1 + 1)) fun fs p2 => .inl (f :: fs, p2) else .inl ([f], p1)) _ _
      rcases fil_m X1 m1 l1 with ⟨a, p', h', b1, b2, b3, b4, b5, b6⟩ | ⟨q', h', b1, b2, b3, b4, b5⟩
      · rw [b1, bnd_l, b2, bd2_s, if_neg z10]
        have key := ih p' f h' (X1.fs b3) b4 b6 (by omega) (by omega)
        refine MB.up (h1 := h') (p1 := p') ?_ b3 b5
        have e : (if hereL L p' = 124 then bnd (pFils L n (p' + 1)) fun fs p2 => .inl (a :: fs, p2) else .inl ([a], p') : PR (List (Nat × Nat))) = mp (if hereL L p' = 124 then pFils L n (p' + 1) else .inl ([], p')) fun fs => a :: fs := by
          by_cases c : hereL L p' = 124
          · rw [if_pos c, if_pos c]; rfl
          · rw [if_neg c, if_neg c]; rfl
        rw [e]
        exact MB.mp key
      · rw [b1, bnd_r, b2, bd2_s, if_pos rfl]
        exact .inr ⟨q', h', rfl, rfl, b3, b4, b5⟩
    · rw [if_neg q, if_neg q]
      exact MB.yes m hp' _ rfl

/-! a filter's name looked up, in the class -/
theorem list_eq : ∀ (w v : List Int32), w.length = v.length → (∀ j, j < w.length → w.getD j 0 = v.getD j 0) → w = v := by
  intro w
  induction w with
  | nil =>
    intro v hl _
    cases v with
    | nil => rfl
    | cons b v => exact absurd hl (by simp)
  | cons a w ih =>
    intro v hl hj
    cases v with
    | nil => exact absurd hl (by simp)
    | cons b v =>
      have h0 : a = b := hj 0 (by simp)
      have hl' : w.length = v.length := Nat.succ.inj hl
      rw [h0, ih v hl' fun j hj' => hj (j + 1) (Nat.succ_lt_succ hj')]
theorem wrd_len (L : List Int32) (p n : Nat) : (wordL L p n).length = n := by unfold wordL; rw [List.length_map, List.length_range]
theorem wrd_at (L : List Int32) (p n j : Nat) (hj : j < n) : (wordL L p n).getD j 0 = L.getD (p + j) 0 := by
  unfold wordL
  rw [List.getD_eq_getElem?_getD, List.getElem?_map, List.getElem?_range hj]
  rfl
theorem ckE_e {a : Nat} (ha : a < 18) : ckE (a + 1) = some () := by unfold ckE; rw [if_pos (by omega)]
theorem gsW_e {a : Nat} (ha : a < 18) : gsW (a + 1) = some (a + 21) := by unfold gsW; rw [if_pos (by omega)]
theorem ckS_e {a : Nat} (ha : a < 19) : ckS (a + 21) = some () := by unfold ckS; rw [if_pos (by omega)]
theorem st_l {h : hp} {o tp bx p n a : Nat} {L : List Int32} (R : RD h o tp bx L) (ha : a < 18) (hn : (sWl.getD a []).length = n) (hp' : p + n ≤ L.length) : ∀ (d i f : Nat), i + d = n → d < f → ((∀ j, i ≤ j → j < n → L.getD (p + j) 0 = (sWl.getD a []).getD j 0) ∧ fX3_stands_l31 f (a + 1) 128 (iN p) (iN n) (iN i) h = some (1, h)) ∨ ((¬ ∀ j, i ≤ j → j < n → L.getD (p + j) 0 = (sWl.getD a []).getD j 0) ∧ fX3_stands_l31 f (a + 1) 128 (iN p) (iN n) (iN i) h = some (0, h)) := by
  have w := R.1
  have N := R.2.2.2.2.2.2.2.1
  have hL := R.len
  intro d
  induction d with
  | zero =>
    intro i f hi hf
    obtain ⟨f, rfl⟩ : ∃ q, f = q + 1 := ⟨f - 1, by omega⟩
    refine .inl ⟨fun j h1 h2 => by omega, ?_⟩
    rw [fX3_stands_l31, if_pos (by rw [i_le (by omega) (by omega)]; omega)]
  | succ d ih =>
    intro i f hi hf
    obtain ⟨f, rfl⟩ : ∃ q, f = q + 1 := ⟨f - 1, by omega⟩
    have e1 : ¬ (iN n ≤ iN i) := by rw [i_le (by omega) (by omega)]; omega
    have e2 : ¬ (iN (sWl.getD a []).length ≤ iN i) := by rw [hn]; exact e1
    have st : fX3_stands_l31 (f + 1) (a + 1) 128 (iN p) (iN n) (iN i) h = if L.getD (p + i) 0 = (sWl.getD a []).getD i 0 then fX3_stands_l31 f (a + 1) 128 (iN p) (iN n) (iN (i + 1)) h else some (0, h) := by
      rw [fX3_stands_l31, if_neg e1, gsW_e ha, Option.bind_some, ckS_e (by omega), Option.bind_some, str_len (by omega), bd2_s, if_neg e2, show gfR h 128 4 0 = some (hR h 128 0) by unfold gfR; rw [T128 w]; rfl, R128_0 w, Option.bind_some, i_add, al_e (T129 w) (by omega) (by decide), Option.bind_some, Option.bind_some, ckS_e (by omega), Option.bind_some, str_at (by omega) (by omega), bd2_s, N.2.2.2 _ (by omega), i_succ]
    rw [st]
    by_cases c : L.getD (p + i) 0 = (sWl.getD a []).getD i 0
    · rw [if_pos c]
      rcases ih (i + 1) f (by omega) (by omega) with ⟨g1, g2⟩ | ⟨g1, g2⟩
      · refine .inl ⟨fun j h1 h2 => ?_, g2⟩
        by_cases cj : j = i
        · rw [cj]; exact c
        · exact g1 j (by omega) h2
      · exact .inr ⟨fun q => g1 fun j h1 h2 => q j (by omega) h2, g2⟩
    · rw [if_neg c]
      exact .inr ⟨fun q => c (q i (Nat.le_refl _) (by omega)), rfl⟩
theorem stands_e {h : hp} {o tp bx p n a : Nat} {L : List Int32} (R : RD h o tp bx L) (ha : a < 18) (hp' : p + n ≤ L.length) : (sWl.getD a [] = wordL L p n ∧ fX3_stands (a + 1) 128 (iN p) (iN n) h = some (1, h)) ∨ (sWl.getD a [] ≠ wordL L p n ∧ fX3_stands (a + 1) 128 (iN p) (iN n) h = some (0, h)) := by
  have w := R.1
  have hL := R.len
  have hl := (sw_len a (by omega)).1
  have np : ¬ (iN p < 0) := by rw [i_nlt]; exact i0_le p (by omega)
  have al : aln 0 h 129 = some (iN 160) := by unfold aln; rw [T129 w]; rfl
  by_cases c : (sWl.getD a []).length = n
  · have hd : fX3_stands (a + 1) 128 (iN p) (iN n) h = bd2 (fX3_stands_l31 FU (a + 1) 128 (iN p) (iN n) 0 h) fun t13 h12 => if t13 = 0 then some (0, h12) else if t13 = 1 then some (1, h12) else none := by
      unfold fX3_stands
      rw [gsW_e ha, Option.bind_some, ckS_e (by omega), Option.bind_some, str_len (by omega), bd2_s, if_pos (by rw [c]), if_neg np, show gfR h 128 4 0 = some (hR h 128 0) by unfold gfR; rw [T128 w]; rfl, R128_0 w, Option.bind_some, al, Option.bind_some, if_pos (by rw [i_sub (by omega), i_le (by omega) (by omega)]; omega)]
    rw [hd]
    rcases st_l R ha c hp' n 0 FU (by omega) (by show n < 1000000; omega) with ⟨g1, g2⟩ | ⟨g1, g2⟩
    · refine .inl ⟨list_eq _ _ (by rw [wrd_len]; exact c) fun j hj => ?_, ?_⟩
      · rw [wrd_at L p n j (by omega)]; exact (g1 j (Nat.zero_le _) (by omega)).symm
      · rw [show fX3_stands_l31 FU (a + 1) 128 (iN p) (iN n) 0 h = _ from g2, bd2_s]; rfl
    · refine .inr ⟨fun q => g1 fun j _ hj => ?_, ?_⟩
      · rw [q, wrd_at L p n j hj]
      · rw [show fX3_stands_l31 FU (a + 1) 128 (iN p) (iN n) 0 h = _ from g2, bd2_s]; rfl
  · refine .inr ⟨fun q => c (by rw [q, wrd_len]), ?_⟩
    unfold fX3_stands
    rw [gsW_e ha, Option.bind_some, ckS_e (by omega), Option.bind_some, str_len (by omega), bd2_s, if_neg (by rw [i_eq (by omega) (by omega)]; exact c)]
theorem alA_e {a : Nat} (ha : a < 18) : alA 19 (iN a) = some (a + 1) := by
  unfold alA
  rw [i_toInt (by omega), i_clamp (by omega), if_pos ⟨rfl, by omega, by omega⟩, Nat.add_comm]
theorem lnA_e : lnA 19 = some (iN 18) := rfl
theorem cl_n {h : hp} {o tp bx p n : Nat} {L : List Int32} (R : RD h o tp bx L) (hp' : p + n ≤ L.length) (hw : ∀ a, a < 18 → sWl.getD a [] ≠ wordL L p n) : ∀ (d a f : Nat), a + d = 18 → d < f → fX3_called_l2 f 128 (iN p) (iN n) (iN a) h = some (1, iN 18, h) := by
  intro d
  induction d with
  | zero =>
    intro a f hi hf
    obtain ⟨f, rfl⟩ : ∃ q, f = q + 1 := ⟨f - 1, by omega⟩
    have h18 : a = 18 := by omega
    subst h18
    rw [fX3_called_l2, lnA_e, Option.bind_some, if_pos (Int32.le_refl _)]
  | succ d ih =>
    intro a f hi hf
    obtain ⟨f, rfl⟩ : ∃ q, f = q + 1 := ⟨f - 1, by omega⟩
    rcases stands_e R (a := a) (by omega) hp' with ⟨g1, _⟩ | ⟨_, g2⟩
    · exact absurd g1 (hw a (by omega))
    · rw [fX3_called_l2, lnA_e, Option.bind_some, if_neg (by rw [i_le (by omega) (by omega)]; omega), alA_e (by omega), Option.bind_some, ckE_e (by omega), Option.bind_some, g2, bd2_s, if_pos rfl, i_succ, ih (a + 1) f (by omega) (by omega)]
theorem cl_s {h : hp} {o tp bx p n b : Nat} {L : List Int32} (R : RD h o tp bx L) (hp' : p + n ≤ L.length) (hb : b < 18) (hw : sWl.getD b [] = wordL L p n) (hw2 : ∀ a, a < 18 → sWl.getD a [] = wordL L p n → a = b) : ∀ (d a f : Nat), a + d = b → d < f → fX3_called_l2 f 128 (iN p) (iN n) (iN a) h = some (0, iN b, h) := by
  intro d
  induction d with
  | zero =>
    intro a f hi hf
    obtain ⟨f, rfl⟩ : ∃ q, f = q + 1 := ⟨f - 1, by omega⟩
    have hab : a = b := by omega
    subst hab
    rcases stands_e R (a := a) hb hp' with ⟨_, g2⟩ | ⟨g1, _⟩
    · rw [fX3_called_l2, lnA_e, Option.bind_some, if_neg (by rw [i_le (by omega) (by omega)]; omega), alA_e (by omega), Option.bind_some, ckE_e (by omega), Option.bind_some, g2, bd2_s, if_neg z10]
    · exact absurd hw g1
  | succ d ih =>
    intro a f hi hf
    obtain ⟨f, rfl⟩ : ∃ q, f = q + 1 := ⟨f - 1, by omega⟩
    rcases stands_e R (a := a) (by omega) hp' with ⟨g1, _⟩ | ⟨_, g2⟩
    · exact absurd (hw2 a (by omega) g1) (by omega)
    · rw [fX3_called_l2, lnA_e, Option.bind_some, if_neg (by rw [i_le (by omega) (by omega)]; omega), alA_e (by omega), Option.bind_some, ckE_e (by omega), Option.bind_some, g2, bd2_s, if_pos rfl, i_succ, ih (a + 1) f (by omega) (by omega)]
theorem sw_dist : ∀ a, a < 18 → ∀ b, b < 18 → sWl.getD a [] = sWl.getD b [] → a = b := by decide +kernel
theorem fa_all : (∀ q, q < 18 → fa q - 1 < 18 ∧ fa q - 1 + 1 = fa q) ∧ ∀ a, a < 18 → ∃ q, q < 18 ∧ fa q - 1 = a := by
  refine ⟨by decide +kernel, ?_⟩
  decide +kernel
theorem fnd_s {w : List Int32} {q : Nat} (e : fnd w = some q) : q < 18 ∧ sWl.getD (fa q - 1) [] = w := by
  unfold fnd at e
  have h1 := List.find?_some e
  have h2 := List.mem_of_find?_eq_some e
  exact ⟨List.mem_range.mp h2, of_decide_eq_true h1⟩
theorem fnd_n {w : List Int32} (e : fnd w = none) : ∀ a, a < 18 → sWl.getD a [] ≠ w := by
  intro a ha hw
  obtain ⟨q, hq, rfl⟩ := fa_all.2 a ha
  unfold fnd at e
  have h1 := List.find?_eq_none.mp e q (List.mem_range.mpr hq)
  exact h1 (decide_eq_true hw)
theorem called_e {h : hp} {o tp bx p n : Nat} {L : List Int32} (R : RD h o tp bx L) (hp' : p + n ≤ L.length) : fX3_called 128 (iN p) (iN n) h = some (match fnd (wordL L p n) with | none => 0 | some q => fa q, h) := by
  unfold fX3_called
  cases hf : fnd (wordL L p n) with
  | none =>
    rw [show fX3_called_l2 FU 128 (iN p) (iN n) 0 h = _ from cl_n R hp' (fnd_n hf) 18 0 FU rfl (by show 18 < 1000000; omega)]
    rfl
  | some q =>
    obtain ⟨q1, q2⟩ := fnd_s hf
    obtain ⟨f1, f2⟩ := fa_all.1 q q1
    rw [show fX3_called_l2 FU 128 (iN p) (iN n) 0 h = _ from cl_s R hp' f1 q2 (fun a ha hw => sw_dist a ha _ f1 (hw.trans q2.symm)) (fa q - 1) 0 FU (by omega) (by show fa q - 1 < 1000000; omega)]
    show (alA 19 (iN (fa q - 1))).bind (fun v5 => some (v5, h)) = some (fa q, h)
    rw [alA_e f1, Option.bind_some, f2]

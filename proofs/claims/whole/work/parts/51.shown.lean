/-! a VALUE SHOWN, on both sides -/
theorem gd1 {L : List Int32} {v : Int32} {k : Nat} (h : k < L.length) : (L ++ [v]).getD k 0 = L.getD k 0 := by
  simp [List.getD, List.getElem?_append, h]
theorem gd2 (L : List Int32) (v : Int32) : (L ++ [v]).getD L.length 0 = v := by
  simp [List.getD, List.getElem?_append]
/-- the class's Numbers hold a list -/
def NL (h : hp) (a b cap : Nat) (L : List Int32) : Prop := NO h a b cap ∧ hI h a 1 = iN L.length ∧ L.length ≤ cap ∧ ∀ k, k < L.length → hI h b k = L.getD k 0
/-- what the reference has shown -/
def ML (h : hp) (L : List Int32) : Prop := hI h 165 6 = iN L.length ∧ L.length ≤ 64 ∧ ∀ k, k < L.length → hI h 171 k = L.getD k 0
def shP (x k : Nat) : Prop := x = 171 ∨ (x = 165 ∧ k = 6)
theorem NL.fr {S : List Nat} {h h' : hp} {a b c : Nat} {L : List Int32} (H : NL h a b c L) (f : FI S h h') (ha : a ∉ S) (hb : b ∉ S) : NL h' a b c L :=
  ⟨f.no H.1, by rw [(f.2.2.2.2 a ha).1]; exact H.2.1, H.2.2.1, by rw [(f.2.2.2.2 b hb).1]; exact H.2.2.2⟩
theorem nAdd' {h : hp} {a b cap : Nat} {L : List Int32} (v : Int32) (H : NL h a b cap L) (hl : L.length < cap) : ∃ h', fX5_add a v h = some (1, h') ∧ NL h' a b cap (L ++ [v]) ∧ FI [a, b] h h' := by
  obtain ⟨h1, h2, h3, h4⟩ := H
  obtain ⟨t1, t2, r1, ne, hc⟩ := id h1
  refine ⟨_, nAdd h1 h2 hl, ⟨h1, ?_, ?_, fun k hk => ?_⟩, FI.tr (FI.pI h b _ v) (FI.pI _ a 1 _) (by simp) (by simp)⟩
  · rw [hI_pI, if_pos ⟨rfl, rfl⟩, List.length_append]; rfl
  · rw [List.length_append]; exact hl
  · rw [List.length_append] at hk
    replace hk : k < L.length + 1 := hk
    rw [hI_pI, if_neg (by rintro ⟨q, -⟩; exact ne q.symm), hI_pI]
    by_cases c : k = L.length
    · subst c; rw [if_pos ⟨rfl, rfl⟩, gd2]
    · rw [if_neg (by rintro ⟨-, q⟩; exact c q), gd1 (by omega)]; exact h4 k (by omega)
theorem mShows {h : hp} (w : WF h) {L : List Int32} (v : Int32) (H : ML h L) (hl : L.length < 64) : ∃ h', fX14_shows 165 v h = some h' ∧ ML h' (L ++ [v]) ∧ FS shP h h' := by
  obtain ⟨h2, h3, h4⟩ := H
  have e1 : hI (pI h 171 L.length v) 165 6 = iN L.length := by rw [hI_pI, if_neg (by simp)]; exact h2
  refine ⟨pI (pI h 171 L.length v) 165 6 (iN (L.length + 1)), ?_, ⟨?_, ?_, fun k hk => ?_⟩, FS.tr (FS.pI (by simp [shP])) (FS.pI (by simp [shP]))⟩
  · simp (disch := (first | assumption | (simp only [WF_e1, WF_e2, WF_e3, WF_e4, WF_e5]; assumption) | omega | decide)) only [fX14_shows, MR5, gM, MS171, pM, Option.bind_some, h2, e1, i_succ]
  · rw [hI_pI, if_pos ⟨rfl, rfl⟩, List.length_append]; rfl
  · rw [List.length_append]; exact hl
  · rw [List.length_append] at hk
    replace hk : k < L.length + 1 := hk
    rw [hI_pI, if_neg (by simp), hI_pI]
    by_cases c : k = L.length
    · subst c; rw [if_pos ⟨rfl, rfl⟩, gd2]
    · rw [if_neg (by rintro ⟨-, q⟩; exact c q), gd1 (by omega)]; exact h4 k (by omega)
theorem i_div {a b : Nat} (hb : 0 < b) (ha : a < 2147483648) (hb2 : b < 2147483648) : iN a / iN b = iN (a / b) := by
  have hq : a / b < 2147483648 := Nat.lt_of_le_of_lt (Nat.div_le_self _ _) ha
  apply Int32.toInt_inj.mp
  rw [Jvm.Kit.i32_div (by rw [i_toInt hb2]; omega), i_toInt ha, i_toInt hb2, i_toInt hq, Int.tdiv_eq_ediv_of_nonneg (by omega)]
  exact (Int.natCast_ediv a b).symm
theorem i_mul (a b : Nat) : iN a * iN b = iN (a * b) := (Int32.ofNat_mul a b).symm
theorem dv_e {a b : Nat} (hb : 0 < b) (ha : a < 2147483648) (hb2 : b < 2147483648) : dvI (iN a) (iN b) = some (iN (a / b)) := by
  unfold dvI
  rw [if_neg (by rw [i_eq_lit (by decide) hb2]; omega), i_div hb ha hb2]
theorem rm_e {a b : Nat} (hb : 0 < b) (ha : a < 2147483648) (hb2 : b < 2147483648) : rmI (iN a) (iN b) = some (iN (a % b)) := by
  unfold rmI
  rw [if_neg (by rw [i_eq_lit (by decide) hb2]; omega), i_div hb ha hb2, i_mul]
  have h1 := Nat.div_mul_le_self a b
  rw [i_sub h1]
  congr 2
  have := Nat.div_add_mod a b
  rw [Nat.mul_comm] at this
  omega
/-- the figures of a, from the i-th place down -/
def dgL (a : Nat) : Nat → List Int32
  | 0 => [48 + iN (a % 10)]
  | i + 1 => (48 + iN (a / 10 ^ (i + 1) % 10)) :: dgL a i
/-- how many figures less one -/
def dgN (a : Nat) : Nat := if a < 10 then 0 else if a < 100 then 1 else if a < 1000 then 2 else if a < 10000 then 3 else if a < 100000 then 4 else if a < 1000000 then 5 else 6
theorem dgL_len (a : Nat) : ∀ i, (dgL a i).length = i + 1 := by
  intro i
  induction i with
  | zero => rfl
  | succ i ih => simp [dgL, ih]
theorem cUnit {h : hp} {x1 : Nat} {a : Nat} (ha : a ≤ 1000000) : fX11_showInt_l21 FU x1 (iN a) 1 0 h = some (iN (10 ^ dgN a), h) := by
  have stop : ∀ (j m : Nat), j ≤ 6 → (j = 6 ∨ a / 10 ^ j < 10) → fX11_showInt_l21 (m + 1) x1 (iN a) (iN (10 ^ j)) (iN j) h = some (iN (10 ^ j), h) := by
    intro j m hj hc
    have hp10 : 0 < 10 ^ j := Nat.pow_pos (by decide)
    have hp6 : 10 ^ j ≤ 10 ^ 6 := Nat.pow_le_pow_right (by decide) hj
    by_cases c : j = 6
    · have e : (6 : Int32) ≤ iN j := by rw [i_lit_le (by decide) (by omega)]; omega
      simp only [fX11_showInt_l21, e, if_true]
    · have e : ¬ ((6 : Int32) ≤ iN j) := by rw [i_lit_le (by decide) (by omega)]; omega
      have hq : a / 10 ^ j ≤ a := Nat.div_le_self _ _
      have e2 : iN (a / 10 ^ j) < 10 := by rw [i_lt_lit (by decide) (by omega)]; omega
      simp only [fX11_showInt_l21, e, if_false, dv_e hp10 (show a < 2147483648 by omega) (show 10 ^ j < 2147483648 by omega), Option.bind_some, e2, if_true]
  have step : ∀ (j m : Nat), j < 6 → ¬ a / 10 ^ j < 10 → fX11_showInt_l21 (m + 1) x1 (iN a) (iN (10 ^ j)) (iN j) h = fX11_showInt_l21 m x1 (iN a) (iN (10 ^ (j + 1))) (iN (j + 1)) h := by
    intro j m hj hc
    have hp10 : 0 < 10 ^ j := Nat.pow_pos (by decide)
    have hp6 : 10 ^ j ≤ 10 ^ 6 := Nat.pow_le_pow_right (by decide) (by omega)
    have e : ¬ ((6 : Int32) ≤ iN j) := by rw [i_lit_le (by decide) (by omega)]; omega
    have hq : a / 10 ^ j ≤ a := Nat.div_le_self _ _
    have e2 : ¬ (iN (a / 10 ^ j) < 10) := by rw [i_lt_lit (by decide) (by omega)]; omega
    have e3 : iN (10 ^ j) * 10 = iN (10 ^ (j + 1)) := by rw [show (10 : Int32) = iN 10 from rfl, i_mul, Nat.pow_succ]
    simp only [fX11_showInt_l21, e, if_false, dv_e hp10 (show a < 2147483648 by omega) (show 10 ^ j < 2147483648 by omega), Option.bind_some, e2, e3, i_succ]
  have go : ∀ j m, j ≤ 6 → (∀ i, i < j → ¬ a / 10 ^ i < 10) → (j = 6 ∨ a / 10 ^ j < 10) → 10 ≤ m → fX11_showInt_l21 m x1 (iN a) (iN 1) (iN 0) h = some (iN (10 ^ j), h) := by
    intro j m hj h1 h2 hm
    have up : ∀ i, i ≤ j → fX11_showInt_l21 m x1 (iN a) (iN (10 ^ 0)) (iN 0) h = fX11_showInt_l21 (m - i) x1 (iN a) (iN (10 ^ i)) (iN i) h := by
      intro i
      induction i with
      | zero => intro _; rfl
      | succ i ih =>
        intro hi
        rw [ih (by omega), show m - i = (m - (i + 1)) + 1 by omega, step i _ (by omega) (h1 i (by omega))]
    have := up j (Nat.le_refl _)
    rw [show m - j = (m - j - 1) + 1 by omega, stop j _ hj h2] at this
    exact this
  have big : 10 ≤ FU := by decide
  have fin : dgN a ≤ 6 ∧ (∀ i, i < dgN a → ¬ a / 10 ^ i < 10) ∧ (dgN a = 6 ∨ a / 10 ^ dgN a < 10) := by
    have cs : ∀ i, i < 6 → i = 0 ∨ i = 1 ∨ i = 2 ∨ i = 3 ∨ i = 4 ∨ i = 5 := by omega
    unfold dgN
    refine ⟨by repeat' split
               all_goals omega, fun i hi => ?_, ?_⟩
    · have hi6 : i < 6 := by
        revert hi
        repeat' split
        all_goals omega
      rcases cs i hi6 with rfl | rfl | rfl | rfl | rfl | rfl
      all_goals
        revert hi
        repeat' split
        all_goals omega
    · repeat' split
      all_goals first | exact .inl rfl | (right; omega)
  exact go (dgN a) FU fin.1 fin.2.1 fin.2.2 big
theorem mUnit {h : hp} {x1 : Nat} {a : Nat} (ha : a ≤ 1000000) : fX14_showsInt_l23 FU x1 (iN a) 1 h = some (iN (10 ^ dgN a), h) := by
  have stop : ∀ (j m : Nat), j ≤ 6 → a / 10 ^ j < 10 → fX14_showsInt_l23 (m + 1) x1 (iN a) (iN (10 ^ j)) h = some (iN (10 ^ j), h) := by
    intro j m hj hc
    have hp10 : 0 < 10 ^ j := Nat.pow_pos (by decide)
    have hp6 : 10 ^ j ≤ 10 ^ 6 := Nat.pow_le_pow_right (by decide) hj
    have hq : a / 10 ^ j ≤ a := Nat.div_le_self _ _
    have e2 : iN (a / 10 ^ j) ≤ 9 := by rw [i_le_lit (by decide) (by omega)]; omega
    simp only [fX14_showsInt_l23, dv_e hp10 (show a < 2147483648 by omega) (show 10 ^ j < 2147483648 by omega), Option.bind_some, e2, if_true]
  have step : ∀ (j m : Nat), j < 6 → ¬ a / 10 ^ j < 10 → fX14_showsInt_l23 (m + 1) x1 (iN a) (iN (10 ^ j)) h = fX14_showsInt_l23 m x1 (iN a) (iN (10 ^ (j + 1))) h := by
    intro j m hj hc
    have hp10 : 0 < 10 ^ j := Nat.pow_pos (by decide)
    have hp6 : 10 ^ j ≤ 10 ^ 6 := Nat.pow_le_pow_right (by decide) (by omega)
    have hq : a / 10 ^ j ≤ a := Nat.div_le_self _ _
    have e2 : ¬ (iN (a / 10 ^ j) ≤ 9) := by rw [i_le_lit (by decide) (by omega)]; omega
    have e3 : iN (10 ^ j) * 10 = iN (10 ^ (j + 1)) := by rw [show (10 : Int32) = iN 10 from rfl, i_mul, Nat.pow_succ]
    simp only [fX14_showsInt_l23, dv_e hp10 (show a < 2147483648 by omega) (show 10 ^ j < 2147483648 by omega), Option.bind_some, e2, e3, if_false]
  have go : ∀ j m, j ≤ 6 → (∀ i, i < j → ¬ a / 10 ^ i < 10) → a / 10 ^ j < 10 → 10 ≤ m → fX14_showsInt_l23 m x1 (iN a) (iN 1) h = some (iN (10 ^ j), h) := by
    intro j m hj h1 h2 hm
    have up : ∀ i, i ≤ j → fX14_showsInt_l23 m x1 (iN a) (iN (10 ^ 0)) h = fX14_showsInt_l23 (m - i) x1 (iN a) (iN (10 ^ i)) h := by
      intro i
      induction i with
      | zero => intro _; rfl
      | succ i ih =>
        intro hi
        rw [ih (by omega), show m - i = (m - (i + 1)) + 1 by omega, step i _ (by omega) (h1 i (by omega))]
    have := up j (Nat.le_refl _)
    rw [show m - j = (m - j - 1) + 1 by omega, stop j _ hj h2] at this
    exact this
  have big : 10 ≤ FU := by decide
  have fin : dgN a ≤ 6 ∧ (∀ i, i < dgN a → ¬ a / 10 ^ i < 10) ∧ a / 10 ^ dgN a < 10 := by
    have cs : ∀ i, i < 6 → i = 0 ∨ i = 1 ∨ i = 2 ∨ i = 3 ∨ i = 4 ∨ i = 5 := by omega
    unfold dgN
    refine ⟨by repeat' split
               all_goals omega, fun i hi => ?_, ?_⟩
    · have hi6 : i < 6 := by
        revert hi
        repeat' split
        all_goals omega
      rcases cs i hi6 with rfl | rfl | rfl | rfl | rfl | rfl
      all_goals
        revert hi
        repeat' split
        all_goals omega
    · repeat' split
      all_goals omega
  exact go (dgN a) FU fin.1 fin.2.1 fin.2.2 big
theorem dgN_le (a : Nat) : dgN a ≤ 6 := by
  unfold dgN
  repeat' split
  all_goals omega
theorem cDigS {x1 m : Nat} {x u d r u' : Int32} {h h1 : hp} (t1 : hT h x1 = (4, 2)) (z : ¬ u ≤ 0) (d1 : dvI x u = some d) (d2 : rmI d 10 = some r) (e1 : fX5_add x1 (48 + r) h = some (1, h1)) (d3 : dvI u 10 = some u') : fX11_showInt_l47 (m + 1) x1 x u h = fX11_showInt_l47 m x1 x u' h1 := by
  simp only [fX11_showInt_l47, z, if_false, d1, d2, Option.bind_some, ckT, t1, if_true, bd2, e1, d3]
theorem cDigE {x1 m : Nat} {x u : Int32} {h : hp} (z : u ≤ 0) : fX11_showInt_l47 (m + 1) x1 x u h = some h := by
  simp only [fX11_showInt_l47, z, if_true]
theorem mDigS {m : Nat} {x u d r u' : Int32} {h h1 : hp} (w : WF h) (z : ¬ u ≤ 0) (d1 : dvI x u = some d) (d2 : rmI d 10 = some r) (e1 : fX14_shows 165 (48 + r) h = some h1) (d3 : dvI u 10 = some u') : fX14_showsInt_l39 (m + 1) 165 x u h = fX14_showsInt_l39 m 165 x u' h1 := by
  simp only [fX14_showsInt_l39, z, if_false, d1, d2, Option.bind_some, ckM w, e1, d3]
theorem mDigE {m : Nat} {x u : Int32} {h : hp} (z : u ≤ 0) : fX14_showsInt_l39 (m + 1) 165 x u h = some h := by
  simp only [fX14_showsInt_l39, z, if_true]
theorem dv0 : dvI (iN 1) 10 = some (iN 0) := dv_e (a := 1) (b := 10) (by decide) (by decide) (by decide)
theorem nle0 {u : Nat} (h0 : 0 < u) (h1 : u < 2147483648) : ¬ (iN u ≤ 0) := by
  rw [i_le_lit (by decide) h1]; omega
theorem le0 : iN 0 ≤ 0 := by rw [i_le_lit (by decide) (by decide)]; exact Nat.le_refl _
theorem cDig {x1 b1 cap : Nat} {a : Nat} (ha : a ≤ 1000000) : ∀ (i m : Nat) (h : hp) (L : List Int32), i ≤ 6 → i + 1 < m → NL h x1 b1 cap L → L.length + i + 1 ≤ cap → ∃ h', fX11_showInt_l47 m x1 (iN a) (iN (10 ^ i)) h = some h' ∧ NL h' x1 b1 cap (L ++ dgL a i) ∧ FI [x1, b1] h h' := by
  intro i
  induction i with
  | zero =>
    intro m h L hi hm H hl
    obtain ⟨m, rfl⟩ : ∃ q, m = q + 1 + 1 := ⟨m - 2, by omega⟩
    obtain ⟨h1, e1, e2, e3⟩ := nAdd' (48 + iN (a % 10)) H (by omega)
    have d1 := dv_e (a := a) (b := 1) (by decide) (by omega) (by decide)
    rw [Nat.div_one] at d1
    have d2 : rmI (iN a) 10 = some (iN (a % 10)) := rm_e (b := 10) (by decide) (by omega) (by decide)
    refine ⟨h1, ?_, e2, e3⟩
    rw [Nat.pow_zero, cDigS H.1.1 (nle0 (by decide) (by decide)) d1 d2 e1 dv0, cDigE le0]
  | succ i ih =>
    intro m h L hi hm H hl
    obtain ⟨m, rfl⟩ : ∃ q, m = q + 1 := ⟨m - 1, by omega⟩
    have hp10 : 0 < 10 ^ (i + 1) := Nat.pow_pos (by decide)
    have hp6 : 10 ^ (i + 1) ≤ 10 ^ 6 := Nat.pow_le_pow_right (by decide) hi
    have hq : a / 10 ^ (i + 1) ≤ a := Nat.div_le_self _ _
    obtain ⟨h1, e1, e2, e3⟩ := nAdd' (48 + iN (a / 10 ^ (i + 1) % 10)) H (by omega)
    have d1 := dv_e hp10 (show a < 2147483648 by omega) (show 10 ^ (i + 1) < 2147483648 by omega)
    have d2 : rmI (iN (a / 10 ^ (i + 1))) 10 = some (iN (a / 10 ^ (i + 1) % 10)) := rm_e (b := 10) (by decide) (by omega) (by decide)
    have d3 : dvI (iN (10 ^ (i + 1))) 10 = some (iN (10 ^ i)) := by
      rw [show (10 : Int32) = iN 10 from rfl, dv_e (by decide) (by omega) (by decide), Nat.pow_succ, Nat.mul_div_cancel _ (by decide)]
    obtain ⟨h2, f1, f2, f3⟩ := ih m h1 (L ++ [48 + iN (a / 10 ^ (i + 1) % 10)]) (by omega) (by omega) e2 (by rw [List.length_append]; simp; omega)
    refine ⟨h2, ?_, ?_, FI.tr' e3 f3⟩
    · rw [cDigS H.1.1 (nle0 hp10 (by omega)) d1 d2 e1 d3]; exact f1
    · rw [List.append_assoc] at f2; exact f2
theorem mDig {a : Nat} (ha : a ≤ 1000000) : ∀ (i m : Nat) (h : hp) (L : List Int32), WF h → i ≤ 6 → i + 1 < m → ML h L → L.length + i + 1 ≤ 64 → ∃ h', fX14_showsInt_l39 m 165 (iN a) (iN (10 ^ i)) h = some h' ∧ ML h' (L ++ dgL a i) ∧ FS shP h h' := by
  intro i
  induction i with
  | zero =>
    intro m h L w hi hm H hl
    obtain ⟨m, rfl⟩ : ∃ q, m = q + 1 + 1 := ⟨m - 2, by omega⟩
    obtain ⟨h1, e1, e2, e3⟩ := mShows w (48 + iN (a % 10)) H (by omega)
    have d1 := dv_e (a := a) (b := 1) (by decide) (by omega) (by decide)
    rw [Nat.div_one] at d1
    have d2 : rmI (iN a) 10 = some (iN (a % 10)) := rm_e (b := 10) (by decide) (by omega) (by decide)
    refine ⟨h1, ?_, e2, e3⟩
    rw [Nat.pow_zero, mDigS w (nle0 (by decide) (by decide)) d1 d2 e1 dv0, mDigE le0]
  | succ i ih =>
    intro m h L w hi hm H hl
    obtain ⟨m, rfl⟩ : ∃ q, m = q + 1 := ⟨m - 1, by omega⟩
    have hp10 : 0 < 10 ^ (i + 1) := Nat.pow_pos (by decide)
    have hp6 : 10 ^ (i + 1) ≤ 10 ^ 6 := Nat.pow_le_pow_right (by decide) hi
    have hq : a / 10 ^ (i + 1) ≤ a := Nat.div_le_self _ _
    obtain ⟨h1, e1, e2, e3⟩ := mShows w (48 + iN (a / 10 ^ (i + 1) % 10)) H (by omega)
    have d1 := dv_e hp10 (show a < 2147483648 by omega) (show 10 ^ (i + 1) < 2147483648 by omega)
    have d2 : rmI (iN (a / 10 ^ (i + 1))) 10 = some (iN (a / 10 ^ (i + 1) % 10)) := rm_e (b := 10) (by decide) (by omega) (by decide)
    have d3 : dvI (iN (10 ^ (i + 1))) 10 = some (iN (10 ^ i)) := by
      rw [show (10 : Int32) = iN 10 from rfl, dv_e (by decide) (by omega) (by decide), Nat.pow_succ, Nat.mul_div_cancel _ (by decide)]
    obtain ⟨h2, f1, f2, f3⟩ := ih m h1 (L ++ [48 + iN (a / 10 ^ (i + 1) % 10)]) (e3.wf w) (by omega) (by omega) e2 (by rw [List.length_append]; simp; omega)
    refine ⟨h2, ?_, ?_, FS.tr e3 f3⟩
    · rw [mDigS w (nle0 hp10 (by omega)) d1 d2 e1 d3]; exact f1
    · rw [List.append_assoc] at f2; exact f2
/-- an INT SHOWN -/
def shI (x : Int32) : List Int32 := (if x < 0 then [45] else []) ++ dgL x.toInt.natAbs (dgN x.toInt.natAbs)
theorem shI_len (x : Int32) : (shI x).length ≤ 8 := by
  unfold shI
  rw [List.length_append, dgL_len]
  have := dgN_le x.toInt.natAbs
  split <;> simp <;> omega
theorem abs_e {x : Int32} (h : inI x) : (0 ≤ x → x = iN x.toInt.natAbs) ∧ (¬ 0 ≤ x → -x = iN x.toInt.natAbs) := by
  unfold inI at h
  constructor
  · intro h0
    rw [Int32.le_iff_toInt_le, show (0 : Int32).toInt = 0 by decide] at h0
    apply Int32.toInt_inj.mp
    rw [i_toInt (by omega)]; omega
  · intro h0
    rw [Int32.le_iff_toInt_le, show (0 : Int32).toInt = 0 by decide] at h0
    apply Int32.toInt_inj.mp
    rw [i_toInt (by omega), Jvm.Kit.i32_neg (by omega)]; omega
theorem cShI {h : hp} {x1 b1 cap : Nat} {L : List Int32} {x : Int32} (hx : inI x) (H : NL h x1 b1 cap L) (hl : L.length + 8 ≤ cap) : ∃ h', fX11_showInt x x1 h = some h' ∧ NL h' x1 b1 cap (L ++ shI x) ∧ FI [x1, b1] h h' := by
  have ab := abs_e hx
  have hr : x.toInt.natAbs ≤ 1000000 := by unfold inI at hx; omega
  have dn := dgN_le x.toInt.natAbs
  obtain ⟨t1, -⟩ := id H.1
  have bigF : dgN x.toInt.natAbs + 1 < FU := by show _ < 1000000; omega
  unfold fX11_showInt shI
  by_cases c : 0 ≤ x
  · have c1 : ¬ x < 0 := fun q => i_nlt.mpr c q
    have e0 : fJ9_abs_0f7a4 x h = some (iN x.toInt.natAbs, h) := by
      unfold fJ9_abs_0f7a4; rw [if_pos c, ← ab.1 c]
    obtain ⟨h2, f1, f2, f3⟩ := cDig (x1 := x1) (b1 := b1) (cap := cap) hr (dgN x.toInt.natAbs) FU h L dn bigF H (by omega)
    simp only [jn_e, c, if_true, c1, if_false, bd2, Option.bind_some, e0, cUnit hr, f1, List.nil_append]
    exact ⟨h2, rfl, f2, f3⟩
  · have c1 : x < 0 := by rw [i_nle] at c; exact c
    obtain ⟨h1, e1, e2, e3⟩ := nAdd' 45 H (by omega)
    have e0 : fJ9_abs_0f7a4 x h1 = some (iN x.toInt.natAbs, h1) := by
      unfold fJ9_abs_0f7a4; rw [if_neg c, ← ab.2 c]
    obtain ⟨h2, f1, f2, f3⟩ := cDig (x1 := x1) (b1 := b1) (cap := cap) hr (dgN x.toInt.natAbs) FU h1 (L ++ [45]) dn bigF e2 (by rw [List.length_append]; simp; omega)
    simp only [jn_e, c, if_true, c1, if_false, bd2, Option.bind_some, ckT, t1, e1, e0, cUnit hr, f1]
    refine ⟨h2, rfl, ?_, FI.tr' e3 f3⟩
    rw [List.append_assoc] at f2; exact f2
theorem mShI {h : hp} (w : WF h) {L : List Int32} {x : Int32} (hx : inI x) (H : ML h L) (hl : L.length + 8 ≤ 64) : ∃ h', fX14_showsInt 165 x h = some h' ∧ ML h' (L ++ shI x) ∧ FS shP h h' := by
  have ab := abs_e hx
  have hr : x.toInt.natAbs ≤ 1000000 := by unfold inI at hx; omega
  have dn := dgN_le x.toInt.natAbs
  have bigF : dgN x.toInt.natAbs + 1 < FU := by show _ < 1000000; omega
  unfold fX14_showsInt shI
  by_cases c : 0 ≤ x
  · have c1 : ¬ x < 0 := fun q => i_nlt.mpr c q
    obtain ⟨h2, f1, f2, f3⟩ := mDig hr (dgN x.toInt.natAbs) FU h L w dn bigF H (by omega)
    rw [← ab.1 c] at f1
    have u := mUnit (h := h) (x1 := 165) hr
    rw [← ab.1 c] at u
    simp only [jn_e, c, if_true, c1, if_false, bd2, Option.bind_some, u, f1, List.nil_append]
    exact ⟨h2, rfl, f2, f3⟩
  · have c1 : x < 0 := by rw [i_nle] at c; exact c
    obtain ⟨h1, e1, e2, e3⟩ := mShows w 45 H (by omega)
    obtain ⟨h2, f1, f2, f3⟩ := mDig hr (dgN x.toInt.natAbs) FU h1 (L ++ [45]) (e3.wf w) dn bigF e2 (by rw [List.length_append]; simp; omega)
    have u := mUnit (h := h1) (x1 := 165) hr
    simp only [jn_e, c, if_true, c1, if_false, bd2, Option.bind_some, ckM w, e1, ab.2 c, u, f1]
    refine ⟨h2, rfl, ?_, FS.tr e3 f3⟩
    rw [List.append_assoc] at f2; exact f2

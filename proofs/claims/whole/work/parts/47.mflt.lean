/-! the FILTERS of the reference -/
theorem i_sublit1 {a : Nat} (h : 1 ≤ a) : iN a - 1 = iN (a - 1) := i_sub1 h
/-- the ints of a slot's row told anew, by places of the row -/
def rw9 (t n : Nat) (g f : Nat → Int32) : Nat → Int32 := fun j => if 16 * t ≤ j ∧ j < 16 * t + n then f (j - 16 * t) else g j
theorem mLetter (c : Int32) (lo by' : Int32) (hlo : 0 ≤ lo.toInt ∧ lo.toInt ≤ 1000) (h : hp) : fX14_letterCase c lo by' h = some (if lo.toInt ≤ c.toInt ∧ c.toInt ≤ lo.toInt + 25 then c + by' else c, h) := by
  have e1 : (lo + 25).toInt = lo.toInt + 25 := Jvm.Kit.i32_add (by rw [show (25 : Int32).toInt = 25 by decide]; omega) (by rw [show (25 : Int32).toInt = 25 by decide]; omega)
  simp only [fX14_letterCase, isIn_e, bd2, Option.bind_some, Int32.toInt_toInt64, e1]
  by_cases c1 : lo.toInt ≤ c.toInt ∧ c.toInt ≤ lo.toInt + 25
  · have z : ¬ ((1 : Int32) = 0) := by decide
    simp only [c1, and_self, if_true, z, if_false]
  · simp only [c1, if_true, if_false]
theorem mCases_l {h : hp} (w : WF h) {t n : Nat} (ht : t < 10) (hs : hI h 168 t = iN n) (hn : n ≤ 16) (lo by' : Int32) (hlo : 0 ≤ lo.toInt ∧ lo.toInt ≤ 1000) : ∀ (d k m : Nat) (g : Nat → Int32), k + d = n → d < m → fX14_cases_l3 m 165 (iN t) lo by' (iN k) (sI h 169 g) = some (sI h 169 (fun j => if 16 * t + k ≤ j ∧ j < 16 * t + n then (if lo.toInt ≤ (g j).toInt ∧ (g j).toInt ≤ lo.toInt + 25 then g j + by' else g j) else g j)) := by
  intro d
  induction d with
  | zero =>
    intro k m g hk hm
    obtain ⟨m, rfl⟩ : ∃ q, m = q + 1 := ⟨m - 1, by omega⟩
    have e : iN n ≤ iN k := by rw [i_le (by omega) (by omega)]; omega
    have e2 : hI (sI h 169 g) 168 t = iN n := by rw [hI_sI, if_neg (by decide)]; exact hs
    simp (disch := (first | assumption | (simp only [WF_e1, WF_e2, WF_e3, WF_e4, WF_e5]; assumption) | omega | decide)) only [fX14_cases_l3, MR2, ML168, Option.bind_some, e2, e, if_true]
    exact congrArg some (sI_congr h 169 fun j => by rw [if_neg (by omega)])
  | succ d ih =>
    intro k m g hk hm
    obtain ⟨m, rfl⟩ : ∃ q, m = q + 1 := ⟨m - 1, by omega⟩
    have e : ¬ (iN n ≤ iN k) := by rw [i_le (by omega) (by omega)]; omega
    have e2 : hI (sI h 169 g) 168 t = iN n := by rw [hI_sI, if_neg (by decide)]; exact hs
    have e3 : hI (sI h 169 g) 169 (16 * t + k) = g (16 * t + k) := by rw [hI_sI, if_pos rfl]
    simp (disch := (first | assumption | (simp only [WF_e1, WF_e2, WF_e3, WF_e4, WF_e5]; assumption) | omega | decide)) only [fX14_cases_l3, MR2, MR3, ML168, ML169, MS169, Option.bind_some, bd2, e2, e, if_false, i_mullit, i_add, i_succ, e3, mLetter _ lo by' hlo, pI_sI]
    rw [ih (k + 1) m _ (by omega) (by omega)]
    refine congrArg some (sI_congr h 169 fun j => ?_)
    by_cases ej : j = 16 * t + k
    · subst ej
      have c3 : 16 * t + k ≤ 16 * t + k ∧ 16 * t + k < 16 * t + n := by omega
      have c4 : ¬ (16 * t + (k + 1) ≤ 16 * t + k ∧ 16 * t + k < 16 * t + n) := by omega
      rw [if_neg c4, if_pos c3, if_pos rfl]
    · by_cases c3 : 16 * t + k ≤ j ∧ j < 16 * t + n
      · rw [if_pos c3, if_pos (by omega), if_neg ej]
      · rw [if_neg c3, if_neg (by omega), if_neg ej]
theorem mRev_l {h : hp} (w : WF h) {t n : Nat} (ht : t < 10) (hs : hI h 168 t = iN n) (hn : n ≤ 16) : ∀ (d k m : Nat) (g : Nat → Int32), k + d = n / 2 → d < m → fX14_turnsAbout_l2 m 165 (iN t) (iN k) (sI h 169 g) = some (sI h 169 (fun j => if 16 * t + k ≤ j ∧ j + k < 16 * t + n then g (16 * t + (n - 1 - (j - 16 * t))) else g j)) := by
  have z2 : ¬ ((2 : Int32) = 0) := by decide
  intro d
  induction d with
  | zero =>
    intro k m g hk hm
    obtain ⟨m, rfl⟩ : ∃ q, m = q + 1 := ⟨m - 1, by omega⟩
    have e : iN (n / 2) ≤ iN k := by rw [i_le (by omega) (by omega)]; omega
    have e2 : hI (sI h 169 g) 168 t = iN n := by rw [hI_sI, if_neg (by decide)]; exact hs
    simp (disch := (first | assumption | (simp only [WF_e1, WF_e2, WF_e3, WF_e4, WF_e5]; assumption) | omega | decide)) only [fX14_turnsAbout_l2, MR2, ML168, Option.bind_some, dvI, z2, if_false, e2, i_div2 n (by omega), e, if_true]
    refine congrArg some (sI_congr h 169 fun j => ?_)
    by_cases c : 16 * t + k ≤ j ∧ j + k < 16 * t + n
    · rw [if_pos c, show 16 * t + (n - 1 - (j - 16 * t)) = j by omega]
    · rw [if_neg c]
  | succ d ih =>
    intro k m g hk hm
    obtain ⟨m, rfl⟩ : ∃ q, m = q + 1 := ⟨m - 1, by omega⟩
    have e : ¬ (iN (n / 2) ≤ iN k) := by rw [i_le (by omega) (by omega)]; omega
    have e2 : ∀ g, hI (sI h 169 g) 168 t = iN n := fun g => by rw [hI_sI, if_neg (by decide)]; exact hs
    have e3 : iN (16 * t + n) - 1 - iN k = iN (16 * t + (n - 1 - k)) := by
      rw [i_sub1 (by omega), i_sub (by omega)]; congr 1; omega
    have e4 : ∀ g k, hI (sI h 169 g) 169 k = g k := fun g k => by rw [hI_sI, if_pos rfl]
    simp (disch := (first | assumption | (simp only [WF_e1, WF_e2, WF_e3, WF_e4, WF_e5]; assumption) | omega | decide)) only [fX14_turnsAbout_l2, MR2, MR3, ML168, ML169, MS169, Option.bind_some, dvI, z2, if_false, e2, i_div2 n (by omega), e, i_mullit, i_add, i_succ, e3, e4, pI_sI]
    rw [ih (k + 1) m _ (by omega) (by omega)]
    refine congrArg some (sI_congr h 169 fun j => ?_)
    by_cases c : 16 * t + (k + 1) ≤ j ∧ j + (k + 1) < 16 * t + n
    · rw [if_pos c, if_neg (by omega), if_neg (by omega), if_pos (by omega)]
    · rw [if_neg c]
      by_cases c1 : j = 16 * t + (n - 1 - k)
      · subst c1
        rw [if_pos rfl, if_pos (by omega), show 16 * t + (n - 1 - (16 * t + (n - 1 - k) - 16 * t)) = 16 * t + k by omega]
      · rw [if_neg c1]
        by_cases c2 : j = 16 * t + k
        · subst c2
          rw [if_pos rfl, if_pos (by omega), show 16 * t + (n - 1 - (16 * t + k - 16 * t)) = 16 * t + (n - 1 - k) by omega]
        · rw [if_neg c2, if_neg (by omega)]
theorem mFig_l {h : hp} (w : WF h) {t n : Nat} {f : Nat → Int32} (ht : t < 10) (hs : hI h 168 t = iN n) (hn : n ≤ 16) (hf : ∀ k, k < n → hI h 169 (16 * t + k) = f k) : ∀ (d k m : Nat) (acc : Int32), k + d = n → d < m → fX14_figures_l4 m 165 (iN t) acc (iN k) h = some (fgF f d k acc, h) := by
  intro d
  induction d with
  | zero =>
    intro k m acc hk hm
    obtain ⟨m, rfl⟩ : ∃ q, m = q + 1 := ⟨m - 1, by omega⟩
    have e : iN n ≤ iN k := by rw [i_le (by omega) (by omega)]; omega
    simp (disch := (first | assumption | (simp only [WF_e1, WF_e2, WF_e3, WF_e4, WF_e5]; assumption) | omega | decide)) only [fX14_figures_l4, MR2, ML168, Option.bind_some, hs, e, if_true, fgF]
  | succ d ih =>
    intro k m acc hk hm
    obtain ⟨m, rfl⟩ : ∃ q, m = q + 1 := ⟨m - 1, by omega⟩
    have e : ¬ (iN n ≤ iN k) := by rw [i_le (by omega) (by omega)]; omega
    have l1 : (48 : Int64).toInt = 48 := by decide
    have l2 : (57 : Int64).toInt = 57 := by decide
    have l3 : (48 : Int32).toInt = 48 := by decide
    have l4 : (57 : Int32).toInt = 57 := by decide
    have z : ¬ ((1 : Int32) = 0) := by decide
    simp (disch := (first | assumption | (simp only [WF_e1, WF_e2, WF_e3, WF_e4, WF_e5]; assumption) | omega | decide)) only [fX14_figures_l4, MR2, MR3, ML168, ML169, Option.bind_some, bd2, hs, e, if_false, i_mullit, i_add, i_succ, hf k (by omega), isIn_e, Int32.toInt_toInt64, l1, l2, jn, fgF]
    by_cases c : 48 ≤ (f k).toInt ∧ (f k).toInt ≤ 57
    · have c' : 48 ≤ f k ∧ f k ≤ 57 := ⟨Int32.le_iff_toInt_le.mpr (by rw [l3]; exact c.1), Int32.le_iff_toInt_le.mpr (by rw [l4]; exact c.2)⟩
      simp only [c, c', and_self, if_true, z, if_false]
      rw [ih (k + 1) m _ (by omega) (by omega)]
    · have c' : ¬ (48 ≤ f k ∧ f k ≤ 57) := fun q => c ⟨by rw [← l3]; exact Int32.le_iff_toInt_le.mp q.1, by rw [← l4]; exact Int32.le_iff_toInt_le.mp q.2⟩
      simp only [c, c', if_false, if_true, Int32.add_zero]
      rw [ih (k + 1) m _ (by omega) (by omega)]
theorem mSum_l {h : hp} (w : WF h) {t n : Nat} {f : Nat → Int32} (ht : t < 10) (hs : hI h 168 t = iN n) (hn : n ≤ 16) (hf : ∀ k, k < n → hI h 169 (16 * t + k) = f k) : ∀ (d k m : Nat) (acc : Int64), k + d = n → d < m → fX14_sums_l5 m 165 (iN t) acc (iN k) h = some (suF f d k acc, h) := by
  intro d
  induction d with
  | zero =>
    intro k m acc hk hm
    obtain ⟨m, rfl⟩ : ∃ q, m = q + 1 := ⟨m - 1, by omega⟩
    have e : iN n ≤ iN k := by rw [i_le (by omega) (by omega)]; omega
    simp (disch := (first | assumption | (simp only [WF_e1, WF_e2, WF_e3, WF_e4, WF_e5]; assumption) | omega | decide)) only [fX14_sums_l5, MR2, ML168, Option.bind_some, hs, e, if_true, suF]
  | succ d ih =>
    intro k m acc hk hm
    obtain ⟨m, rfl⟩ : ∃ q, m = q + 1 := ⟨m - 1, by omega⟩
    have e : ¬ (iN n ≤ iN k) := by rw [i_le (by omega) (by omega)]; omega
    simp (disch := (first | assumption | (simp only [WF_e1, WF_e2, WF_e3, WF_e4, WF_e5]; assumption) | omega | decide)) only [fX14_sums_l5, MR2, MR3, ML168, ML169, Option.bind_some, hs, e, if_false, i_mullit, i_add, i_succ, hf k (by omega), suF]
    rw [ih (k + 1) m _ (by omega) (by omega)]
/-- the row of slot t told by f -/
theorem rw9_at (t n : Nat) (g f : Nat → Int32) {k : Nat} (hk : k < n) : rw9 t n g f (16 * t + k) = f k := by
  unfold rw9; rw [if_pos (by omega), show 16 * t + k - 16 * t = k by omega]
theorem rw9_up (t n : Nat) (g f : Nat → Int32) {k : Nat} {v : Int32} (hk : k < n) : (fun j => if j = 16 * t + k then v else rw9 t n g f j) = rw9 t n g (fun j => if j = k then v else f j) := by
  funext j
  unfold rw9
  by_cases c : 16 * t ≤ j ∧ j < 16 * t + n
  · rw [if_pos c, if_pos c]
    show _ = if j - 16 * t = k then v else f (j - 16 * t)
    by_cases c2 : j = 16 * t + k
    · rw [if_pos c2, if_pos (by omega)]
    · rw [if_neg c2, if_neg (by omega)]
  · rw [if_neg c, if_neg c, if_neg (by omega)]
theorem mSort_i {h : hp} (w : WF h) {t n : Nat} (ht : t < 10) (hn : n ≤ 16) (g0 : Nat → Int32) (v x2 : Int32) : ∀ (j m : Nat) (f : Nat → Int32), j < n → j < m → ∃ p f', p < n ∧ fX14_sorts_l27 m 165 (iN t) x2 v (iN j) (sI h 169 (rw9 t n g0 f)) = some (iN p, sI h 169 (rw9 t n g0 f')) ∧ (fun k => if k = p then v else f' k) = shF v j f := by
  intro j
  induction j with
  | zero =>
    intro m f hj hm
    obtain ⟨m, rfl⟩ : ∃ q, m = q + 1 := ⟨m - 1, by omega⟩
    have e : iN 0 ≤ 0 := by decide
    refine ⟨0, f, hj, ?_, rfl⟩
    simp only [fX14_sorts_l27, e, if_true]
  | succ j ih =>
    intro m f hj hm
    obtain ⟨m, rfl⟩ : ∃ q, m = q + 1 := ⟨m - 1, by omega⟩
    have e : ¬ (iN (j + 1) ≤ 0) := by rw [i_le_lit (by omega) (by omega)]; omega
    have e1 : iN (16 * t + (j + 1)) - 1 = iN (16 * t + j) := by rw [i_sub1 (by omega)]; congr 1
    have e2 : iN (j + 1) + (-1) = iN j := by rw [i_addneg1 (by omega)]; rfl
    have e3 : ∀ g k, hI (sI h 169 g) 169 k = g k := fun g k => by rw [hI_sI, if_pos rfl]
    simp (disch := (first | assumption | (simp only [WF_e1, WF_e2, WF_e3, WF_e4, WF_e5]; assumption) | omega | decide)) only [fX14_sorts_l27, e, if_false, MR3, ML169, MS169, Option.bind_some, i_mullit, i_add, e1, e2, e3, rw9_at t n g0 f (show j < n by omega), pI_sI]
    by_cases c : f j ≤ v
    · simp only [c, if_true]
      refine ⟨j + 1, f, hj, rfl, ?_⟩
      simp only [shF, c, if_true]
    · simp only [c, if_false]
      rw [rw9_up t n g0 f hj]
      obtain ⟨p, f', hp', hr, hf'⟩ := ih m (fun k => if k = j + 1 then f j else f k) (by omega) (by omega)
      refine ⟨p, f', hp', hr, ?_⟩
      rw [hf']
      simp only [shF, c, if_false]
theorem mSort_l {h : hp} (w : WF h) {t n : Nat} (ht : t < 10) (hs : hI h 168 t = iN n) (hn : n ≤ 16) (g0 : Nat → Int32) : ∀ (d k m : Nat) (f : Nat → Int32), k + d = max n 1 → 1 ≤ k → d < m → fX14_sorts_l2 m 165 (iN t) (iN k) (sI h 169 (rw9 t n g0 f)) = some (sI h 169 (rw9 t n g0 (soF d k f))) := by
  intro d
  induction d with
  | zero =>
    intro k m f hk h1 hm
    obtain ⟨m, rfl⟩ : ∃ q, m = q + 1 := ⟨m - 1, by omega⟩
    have e : iN n ≤ iN k := by rw [i_le (by omega) (by omega)]; omega
    have e2 : hI (sI h 169 (rw9 t n g0 f)) 168 t = iN n := by rw [hI_sI, if_neg (by decide)]; exact hs
    simp (disch := (first | assumption | (simp only [WF_e1, WF_e2, WF_e3, WF_e4, WF_e5]; assumption) | omega | decide)) only [fX14_sorts_l2, MR2, ML168, Option.bind_some, e2, e, if_true, soF]
  | succ d ih =>
    intro k m f hk h1 hm
    obtain ⟨m, rfl⟩ : ∃ q, m = q + 1 := ⟨m - 1, by omega⟩
    have e : ¬ (iN n ≤ iN k) := by rw [i_le (by omega) (by omega)]; omega
    have e2 : hI (sI h 169 (rw9 t n g0 f)) 168 t = iN n := by rw [hI_sI, if_neg (by decide)]; exact hs
    have e3 : hI (sI h 169 (rw9 t n g0 f)) 169 (16 * t + k) = f k := by rw [hI_sI, if_pos rfl, rw9_at t n g0 f (by omega)]
    obtain ⟨p, f', hp', hr, hf'⟩ := mSort_i w ht hn g0 (f k) (iN k) k FU f (by omega) (by show k < 1000000; omega)
    simp (disch := (first | assumption | (simp only [WF_e1, WF_e2, WF_e3, WF_e4, WF_e5]; assumption) | omega | decide)) only [fX14_sorts_l2, MR2, MR3, ML168, ML169, MS169, Option.bind_some, bd2, e2, e, if_false, i_mullit, i_add, i_succ, e3, hr, pI_sI]
    rw [rw9_up t n g0 f' hp', hf', ih (k + 1) m _ (by omega) (by omega) (by omega)]
    rfl
theorem mPad_l {h : hp} (w : WF h) {t p : Nat} (ht : t < 10) (hp' : p < 2147483648) : ∀ (d m : Nat) (n : Nat) (g : Nat → Int32), n ≤ 16 → d = min p 16 - n → d < m → fX14_numbered_l76 m 165 (iN t) (iN p) 3 (pI (sI h 169 g) 168 t (iN n)) = some (pI (sI h 169 (fun j => if 16 * t + n ≤ j ∧ j < 16 * t + max n (min p 16) then 32 else g j)) 168 t (iN (max n (min p 16)))) := by
  intro d
  induction d with
  | zero =>
    intro m n g hn hd hm
    obtain ⟨m, rfl⟩ : ∃ q, m = q + 1 := ⟨m - 1, by omega⟩
    have e2 : hI (pI (sI h 169 g) 168 t (iN n)) 168 t = iN n := by rw [hI_pI, if_pos ⟨rfl, rfl⟩]
    have eg : (fun j => if 16 * t + n ≤ j ∧ j < 16 * t + max n (min p 16) then 32 else g j) = g := by funext j; rw [if_neg (by omega)]
    rw [eg, show max n (min p 16) = n by omega]
    by_cases c : p ≤ n
    · have e : iN p ≤ iN n := by rw [i_le (by omega) (by omega)]; omega
      simp (disch := (first | assumption | (simp only [WF_e1, WF_e2, WF_e3, WF_e4, WF_e5]; assumption) | omega | decide)) only [fX14_numbered_l76, if_true, MR2, ML168, Option.bind_some, e2, e]
    · have e : ¬ (iN p ≤ iN n) := by rw [i_le (by omega) (by omega)]; omega
      have e3 : (16 : Int32) ≤ iN n := by rw [i_lit_le (by omega) (by omega)]; omega
      simp (disch := (first | assumption | (simp only [WF_e1, WF_e2, WF_e3, WF_e4, WF_e5]; assumption) | omega | decide)) only [fX14_numbered_l76, if_true, MR2, ML168, Option.bind_some, e2, e, e3, if_false]
  | succ d ih =>
    intro m n g hn hd hm
    obtain ⟨m, rfl⟩ : ∃ q, m = q + 1 := ⟨m - 1, by omega⟩
    have e2 : hI (pI (sI h 169 g) 168 t (iN n)) 168 t = iN n := by rw [hI_pI, if_pos ⟨rfl, rfl⟩]
    have e : ¬ (iN p ≤ iN n) := by rw [i_le (by omega) (by omega)]; omega
    have e3 : ¬ ((16 : Int32) ≤ iN n) := by rw [i_lit_le (by omega) (by omega)]; omega
    have e4 : hI (pI (pI (sI h 169 g) 168 t (iN n)) 169 (16 * t + n) 32) 168 t = iN n := by rw [hI_pI, if_neg (by simp), hI_pI, if_pos ⟨rfl, rfl⟩]
    have e5 : pI (pI (pI (sI h 169 g) 168 t (iN n)) 169 (16 * t + n) 32) 168 t (iN (n + 1)) = pI (sI h 169 (fun j => if j = 16 * t + n then 32 else g j)) 168 t (iN (n + 1)) := by
      refine hp_ext rfl rfl rfl ?_ (fun _ _ => rfl) (fun _ _ => rfl)
      intro a j
      simp only [hI_pI, hI_sI]
      by_cases c1 : a = 168
      · subst c1; by_cases c2 : j = t <;> simp [c2]
      · by_cases c3 : a = 169
        · subst c3; simp
        · simp [c1, c3]
    simp (disch := (first | assumption | (simp only [WF_e1, WF_e2, WF_e3, WF_e4, WF_e5]; assumption) | omega | decide)) only [fX14_numbered_l76, if_true, if_false, MR2, MR3, ML168, MS169, MS168, Option.bind_some, e2, e, e3, i_mullit, i_add, e4, i_succ, e5]
    rw [ih m (n + 1) _ (by omega) (by omega) (by omega)]
    rw [show max (n + 1) (min p 16) = max n (min p 16) by omega]
    congr 2
    refine sI_congr h 169 fun j => ?_
    by_cases c1 : j = 16 * t + n
    · subst c1
      rw [if_neg (by omega), if_pos rfl, if_pos (by omega)]
    · by_cases c2 : 16 * t + n ≤ j ∧ j < 16 * t + max n (min p 16)
      · rw [if_pos c2, if_pos (by omega)]
      · rw [if_neg c2, if_neg (by omega), if_neg c1]
theorem mBecomes {h : hp} (w : WF h) {t : Nat} (ht : t < 10) {V : vT} (x : Int64) (H : MV h t V) : ∃ h', fX14_becomes 165 (iN t) x h = some (iN (cnt x V).1, h') ∧ MV h' t (cnt x V).2 ∧ FS (sP t) h h' := by
  have l1 : (-1000000 : Int64).toInt = -1000000 := by decide
  have l2 : (1000000 : Int64).toInt = 1000000 := by decide
  unfold cnt inL
  by_cases c : -1000000 ≤ x.toInt ∧ x.toInt ≤ 1000000
  · rw [if_pos (by simpa using c)]
    have z : ¬ ((1 : Int32) = 0) := by decide
    refine ⟨_, ?_, mvInt x.toInt32, fsInt x.toInt32⟩
    simp only [fX14_becomes, isIn_e, l1, l2, c, and_self, if_true, bd2, Option.bind_some, z, if_false, ckM w, mInt w ht]
    rfl
  · rw [if_neg (by simpa using c)]
    refine ⟨h, ?_, H, FS.rf _ _⟩
    simp only [fX14_becomes, isIn_e, l1, l2, c, if_false, bd2, Option.bind_some, if_true]
    rfl
/-- the row of a slot told anew -/
theorem MV.row {h : hp} {t s n : Nat} {g f : Nat → Int32} (h0 : hI h 166 t = iN s) (h3 : hI h 168 t = iN n) (hs : s ≤ 4) (hs3 : 3 ≤ s) (hn : n ≤ 16) (hg : ∀ k, k < n → g (16 * t + k) = f k) : MV (sI h 169 g) t (vL s n f) :=
  ⟨by rw [hI_sI, if_neg (by decide)]; exact h0, hs, fun e => absurd e (by show ¬ s = 1; omega), fun e => absurd e (by show ¬ s = 2; omega), fun _ => ⟨by rw [hI_sI, if_neg (by decide)]; exact h3, hn, fun k hk => by rw [hI_sI, if_pos rfl]; exact hg k hk⟩⟩
theorem fsRow {h : hp} {t : Nat} {g : Nat → Int32} (hg : ∀ j, ¬ (16 * t ≤ j ∧ j < 16 * t + 16) → g j = hI h 169 j) : FS (sP t) h (sI h 169 g) := FS.sI fun k hk => hg k fun q => hk (.inr ⟨rfl, q.1, q.2⟩)
theorem MV.cut {h : hp} {t s n p : Nat} {x : Int32} {r : UInt32} {f : Nat → Int32} (H : MV h t (s, x, r, n, f)) (hs3 : 3 ≤ s) (hp' : p ≤ n) : MV (pI h 168 t (iN p)) t (vL s p f) := by
  obtain ⟨h1, h2, h3⟩ := H.2.2.2.2 hs3
  refine ⟨by rw [hI_pI, if_neg (by simp)]; exact H.1, H.2.1, fun e => absurd e (by show ¬ s = 1; omega), fun e => absurd e (by show ¬ s = 2; omega), fun _ => ⟨by rw [hI_pI, if_pos ⟨rfl, rfl⟩]; rfl, Nat.le_trans hp' h2, fun k hk => ?_⟩⟩
  rw [hI_pI, if_neg (by simp)]
  exact h3 k (Nat.lt_of_lt_of_le hk hp')
theorem zz01 : ((0 : Int32) = 1) = False := eq_false (by decide)
theorem zz02 : ((0 : Int32) = 2) = False := eq_false (by decide)
theorem zz03 : ((0 : Int32) = 3) = False := eq_false (by decide)
theorem zz04 : ((0 : Int32) = 4) = False := eq_false (by decide)
theorem zz10 : ((1 : Int32) = 0) = False := eq_false (by decide)
theorem zz12 : ((1 : Int32) = 2) = False := eq_false (by decide)
theorem zz13 : ((1 : Int32) = 3) = False := eq_false (by decide)
theorem zz14 : ((1 : Int32) = 4) = False := eq_false (by decide)
theorem zz20 : ((2 : Int32) = 0) = False := eq_false (by decide)
theorem zz21 : ((2 : Int32) = 1) = False := eq_false (by decide)
theorem zz23 : ((2 : Int32) = 3) = False := eq_false (by decide)
theorem zz24 : ((2 : Int32) = 4) = False := eq_false (by decide)
theorem zz30 : ((3 : Int32) = 0) = False := eq_false (by decide)
theorem zz31 : ((3 : Int32) = 1) = False := eq_false (by decide)
theorem zz32 : ((3 : Int32) = 2) = False := eq_false (by decide)
theorem zz34 : ((3 : Int32) = 4) = False := eq_false (by decide)
theorem zz40 : ((4 : Int32) = 0) = False := eq_false (by decide)
theorem zz41 : ((4 : Int32) = 1) = False := eq_false (by decide)
theorem zz42 : ((4 : Int32) = 2) = False := eq_false (by decide)
theorem zz43 : ((4 : Int32) = 3) = False := eq_false (by decide)
theorem pkA0 {α : Type} (K : Int32 → hp → α) (h : hp) : (jn K fun k22 => jn (fun (h17j : hp) => k22 1 h17j) fun k17 => if (0 : Int32) = 3 then k17 h else if (0 : Int32) = 4 then k17 h else k22 0 h) = K 0 h := rfl
theorem pkB0 {α : Type} (K : Int32 → hp → α) (h : hp) : (jn K fun k39 => jn (fun (h34j : hp) => k39 1 h34j) fun k34 => if (0 : Int32) = 1 then k34 h else if (0 : Int32) = 2 then k34 h else k39 0 h) = K 0 h := rfl
theorem pkA1 {α : Type} (K : Int32 → hp → α) (h : hp) : (jn K fun k22 => jn (fun (h17j : hp) => k22 1 h17j) fun k17 => if (1 : Int32) = 3 then k17 h else if (1 : Int32) = 4 then k17 h else k22 0 h) = K 0 h := rfl
theorem pkB1 {α : Type} (K : Int32 → hp → α) (h : hp) : (jn K fun k39 => jn (fun (h34j : hp) => k39 1 h34j) fun k34 => if (1 : Int32) = 1 then k34 h else if (1 : Int32) = 2 then k34 h else k39 0 h) = K 1 h := rfl
theorem pkA2 {α : Type} (K : Int32 → hp → α) (h : hp) : (jn K fun k22 => jn (fun (h17j : hp) => k22 1 h17j) fun k17 => if (2 : Int32) = 3 then k17 h else if (2 : Int32) = 4 then k17 h else k22 0 h) = K 0 h := rfl
theorem pkB2 {α : Type} (K : Int32 → hp → α) (h : hp) : (jn K fun k39 => jn (fun (h34j : hp) => k39 1 h34j) fun k34 => if (2 : Int32) = 1 then k34 h else if (2 : Int32) = 2 then k34 h else k39 0 h) = K 1 h := rfl
theorem pkA3 {α : Type} (K : Int32 → hp → α) (h : hp) : (jn K fun k22 => jn (fun (h17j : hp) => k22 1 h17j) fun k17 => if (3 : Int32) = 3 then k17 h else if (3 : Int32) = 4 then k17 h else k22 0 h) = K 1 h := rfl
theorem pkB3 {α : Type} (K : Int32 → hp → α) (h : hp) : (jn K fun k39 => jn (fun (h34j : hp) => k39 1 h34j) fun k34 => if (3 : Int32) = 1 then k34 h else if (3 : Int32) = 2 then k34 h else k39 0 h) = K 0 h := rfl
theorem pkA4 {α : Type} (K : Int32 → hp → α) (h : hp) : (jn K fun k22 => jn (fun (h17j : hp) => k22 1 h17j) fun k17 => if (4 : Int32) = 3 then k17 h else if (4 : Int32) = 4 then k17 h else k22 0 h) = K 1 h := rfl
theorem pkB4 {α : Type} (K : Int32 → hp → α) (h : hp) : (jn K fun k39 => jn (fun (h34j : hp) => k39 1 h34j) fun k34 => if (4 : Int32) = 1 then k34 h else if (4 : Int32) = 2 then k34 h else k39 0 h) = K 0 h := rfl
theorem mFP0 {h : hp} (w : WF h) {t m q : Nat} {x : Int32} {r : UInt32} {n : Nat} {f : Nat → Int32} (ht : t < 10) (H : MV h t (0, x, r, n, f)) (hq : q < 13) : ∃ h', fX14_plain 165 (iN t) (iN q) h = some (iN (fltS q (iN m) (0, x, r, n, f)).1, h') ∧ MV h' t (fltS q (iN m) (0, x, r, n, f)).2 ∧ FS (sP t) h h' := by
  have hk : hI h 166 t = 0 := H.1
  unfold fX14_plain
  rw [MR0 w, Option.bind_some, ML166 w ht, Option.bind_some, hk, pkA0]
  rw [pkB0]
  have hqs : q = 0 ∨ q = 1 ∨ q = 2 ∨ q = 3 ∨ q = 4 ∨ q = 5 ∨ q = 6 ∨ q = 7 ∨ q = 8 ∨ q = 9 ∨ q = 10 ∨ q = 11 ∨ q = 12 := by omega
  rcases hqs with rfl | rfl | rfl | rfl | rfl | rfl | rfl | rfl | rfl | rfl | rfl | rfl | rfl
  · rw [if_pos (show iN 0 = 0 from rfl)]
    exact ⟨h, rfl, H, FS.rf _ _⟩
  · rw [if_neg (by decide), if_pos (show iN 1 = 1 from rfl)]
    exact ⟨h, rfl, H, FS.rf _ _⟩
  · rw [if_neg (by decide), if_neg (by decide), if_pos (show iN 2 = 2 from rfl)]
    exact ⟨h, rfl, H, FS.rf _ _⟩
  · rw [if_neg (by decide), if_neg (by decide), if_neg (by decide), if_pos (show iN 3 = 3 from rfl)]
    exact ⟨h, rfl, H, FS.rf _ _⟩
  · rw [if_neg (by decide), if_neg (by decide), if_neg (by decide), if_neg (by decide), if_pos (show iN 4 = 4 from rfl)]
    exact ⟨h, rfl, H, FS.rf _ _⟩
  · rw [if_neg (by decide), if_neg (by decide), if_neg (by decide), if_neg (by decide), if_neg (by decide), if_pos (show iN 5 = 5 from rfl)]
    exact ⟨h, rfl, H, FS.rf _ _⟩
  · rw [if_neg (by decide), if_neg (by decide), if_neg (by decide), if_neg (by decide), if_neg (by decide), if_neg (by decide), if_pos (show iN 6 = 6 from rfl)]
    exact ⟨h, rfl, H, FS.rf _ _⟩
  · rw [if_neg (by decide), if_neg (by decide), if_neg (by decide), if_neg (by decide), if_neg (by decide), if_neg (by decide), if_neg (by decide), if_pos (show iN 7 = 7 from rfl)]
    exact ⟨h, rfl, H, FS.rf _ _⟩
  · rw [if_neg (by decide), if_neg (by decide), if_neg (by decide), if_neg (by decide), if_neg (by decide), if_neg (by decide), if_neg (by decide), if_neg (by decide), if_pos (show iN 8 = 8 from rfl)]
    exact ⟨h, rfl, H, FS.rf _ _⟩
  · rw [if_neg (by decide), if_neg (by decide), if_neg (by decide), if_neg (by decide), if_neg (by decide), if_neg (by decide), if_neg (by decide), if_neg (by decide), if_neg (by decide), if_pos (show iN 9 = 9 from rfl)]
    exact ⟨h, rfl, H, FS.rf _ _⟩
  · rw [if_neg (by decide), if_neg (by decide), if_neg (by decide), if_neg (by decide), if_neg (by decide), if_neg (by decide), if_neg (by decide), if_neg (by decide), if_neg (by decide), if_neg (by decide), if_pos (show iN 10 = 10 from rfl)]
    exact ⟨h, rfl, H, FS.rf _ _⟩
  · rw [if_neg (by decide), if_neg (by decide), if_neg (by decide), if_neg (by decide), if_neg (by decide), if_neg (by decide), if_neg (by decide), if_neg (by decide), if_neg (by decide), if_neg (by decide), if_neg (by decide), if_pos (show iN 11 = 11 from rfl)]
    exact ⟨h, rfl, H, FS.rf _ _⟩
  · rw [if_neg (by decide), if_neg (by decide), if_neg (by decide), if_neg (by decide), if_neg (by decide), if_neg (by decide), if_neg (by decide), if_neg (by decide), if_neg (by decide), if_neg (by decide), if_neg (by decide), if_neg (by decide)]
    exact ⟨h, rfl, H, FS.rf _ _⟩
theorem mBits (x : Int32) (h : hp) : fX14_bitsOf x h = some (biF x, h) := by
  have z4 : ¬ ((4096 : Int32) = 0) := by decide
  have e : (Op.cmpValue (FP.dcmp (FP.i2d x) (FP.i2d x)) .l) = 0 := by
    have hn := (Jvm.FP.Core.i2d_fin x).ne_nan
    rw [show FP.dcmp (FP.i2d x) (FP.i2d x) = _ from Jvm.FP.Core.dcmp_key hn hn]
    simp only [compare, compareOfLessAndEq, if_true, Int.lt_irrefl, if_false]
    rfl
  simp only [fX14_bitsOf, fJxe99ae_doubleToLongBits_ccdee, fJxe99ae_isNaN_b9ae7, e, bd2, if_true, Option.bind_some, dvI, z4, if_false]
  rfl
theorem mFbits {r : UInt32} (hf : Jvm.FP.Core.FFin r) (h : hp) : fJxf58ca_floatToIntBits_5c35a r h = some (r.toInt32, h) := by
  have e : (Op.cmpValue (FP.fcmp r r) .l) = 0 := by
    have hn := hf.ne_nan
    rw [cmpl_eq hn hn]
  simp only [fJxf58ca_floatToIntBits_5c35a, fJxf58ca_isNaN_12338, e, bd2, if_true, Option.bind_some]
theorem mFP1 {h : hp} (w : WF h) {t m q : Nat} {x : Int32} {r : UInt32} {n : Nat} {f : Nat → Int32} (ht : t < 10) (H : MV h t (1, x, r, n, f)) (hq : q < 13) : ∃ h', fX14_plain 165 (iN t) (iN q) h = some (iN (fltS q (iN m) (1, x, r, n, f)).1, h') ∧ MV h' t (fltS q (iN m) (1, x, r, n, f)).2 ∧ FS (sP t) h h' := by
  have hk : hI h 166 t = 1 := H.1
  unfold fX14_plain
  rw [MR0 w, Option.bind_some, ML166 w ht, Option.bind_some, hk, pkA1]
  rw [pkB1]
  have hx : hI h 167 t = x := H.2.2.1 rfl
  have z2 : ¬ ((2 : Int32) = 0) := by decide
  have z4 : ¬ ((4096 : Int32) = 0) := by decide
  have hqs : q = 0 ∨ q = 1 ∨ q = 2 ∨ q = 3 ∨ q = 4 ∨ q = 5 ∨ q = 6 ∨ q = 7 ∨ q = 8 ∨ q = 9 ∨ q = 10 ∨ q = 11 ∨ q = 12 := by omega
  rcases hqs with rfl | rfl | rfl | rfl | rfl | rfl | rfl | rfl | rfl | rfl | rfl | rfl | rfl
  · rw [if_pos (show iN 0 = 0 from rfl)]
    exact ⟨h, rfl, H, FS.rf _ _⟩
  · rw [if_neg (by decide), if_pos (show iN 1 = 1 from rfl)]
    exact ⟨h, rfl, H, FS.rf _ _⟩
  · rw [if_neg (by decide), if_neg (by decide), if_pos (show iN 2 = 2 from rfl)]
    exact ⟨h, rfl, H, FS.rf _ _⟩
  · rw [if_neg (by decide), if_neg (by decide), if_neg (by decide), if_pos (show iN 3 = 3 from rfl)]
    exact ⟨h, rfl, H, FS.rf _ _⟩
  · rw [if_neg (by decide), if_neg (by decide), if_neg (by decide), if_neg (by decide), if_pos (show iN 4 = 4 from rfl)]
    simp (disch := (first | assumption | (simp only [WF_e1, WF_e2, WF_e3, WF_e4, WF_e5]; assumption) | omega | decide)) only [jn_e, zz01, zz02, zz03, zz04, zz10, zz12, zz13, zz14, zz20, zz21, zz23, zz24, zz30, zz31, zz32, zz34, zz40, zz41, zz42, zz43, if_true, if_false, MR1, ML167, MS167, Option.bind_some, dvI, z2, if_false, hx]
    refine ⟨_, rfl, ⟨by rw [hI_pI, if_neg (by simp)]; exact hk, by show 1 ≤ 4; decide, fun _ => by rw [hI_pI, if_pos ⟨rfl, rfl⟩]; rfl, fun e => absurd e (by show ¬ 1 = 2; decide), fun e => absurd e (by show ¬ 3 ≤ 1; decide)⟩, FS.pI (by simp [sP])⟩
  · rw [if_neg (by decide), if_neg (by decide), if_neg (by decide), if_neg (by decide), if_neg (by decide), if_pos (show iN 5 = 5 from rfl)]
    have nn : Jvm.FP.Core.fIsNaN (FP.fdiv (FP.i2f x) 1077936128) = false := Jvm.FP.Core.fdiv_out (Jvm.FP.Core.i2f_fin x).notNaN (by rw [Jvm.FP.Core.fin_bits32]; decide) (by rw [Jvm.FP.Core.zero_bits232]; decide)
    simp (disch := (first | assumption | (simp only [WF_e1, WF_e2, WF_e3, WF_e4, WF_e5]; assumption) | omega | decide)) only [jn_e, zz01, zz02, zz03, zz04, zz10, zz12, zz13, zz14, zz20, zz21, zz23, zz24, zz30, zz31, zz32, zz34, zz40, zz41, zz42, zz43, if_true, if_false, MR1, ML167, Option.bind_some, hx, fnn_ok nn, ckM, mReal]
    exact ⟨_, rfl, mvReal _, fsReal _⟩
  · rw [if_neg (by decide), if_neg (by decide), if_neg (by decide), if_neg (by decide), if_neg (by decide), if_neg (by decide), if_pos (show iN 6 = 6 from rfl)]
    exact ⟨h, rfl, H, FS.rf _ _⟩
  · rw [if_neg (by decide), if_neg (by decide), if_neg (by decide), if_neg (by decide), if_neg (by decide), if_neg (by decide), if_neg (by decide), if_pos (show iN 7 = 7 from rfl)]
    simp (disch := (first | assumption | (simp only [WF_e1, WF_e2, WF_e3, WF_e4, WF_e5]; assumption) | omega | decide)) only [jn_e, zz01, zz02, zz03, zz04, zz10, zz12, zz13, zz14, zz20, zz21, zz23, zz24, zz30, zz31, zz32, zz34, zz40, zz41, zz42, zz43, if_true, if_false, MR1, ML167, Option.bind_some, hx, ckM, mReal]
    exact ⟨_, rfl, mvReal _, fsReal _⟩
  · rw [if_neg (by decide), if_neg (by decide), if_neg (by decide), if_neg (by decide), if_neg (by decide), if_neg (by decide), if_neg (by decide), if_neg (by decide), if_pos (show iN 8 = 8 from rfl)]
    simp (disch := (first | assumption | (simp only [WF_e1, WF_e2, WF_e3, WF_e4, WF_e5]; assumption) | omega | decide)) only [jn_e, zz01, zz02, zz03, zz04, zz10, zz12, zz13, zz14, zz20, zz21, zz23, zz24, zz30, zz31, zz32, zz34, zz40, zz41, zz42, zz43, if_true, if_false, MR1, ML167, Option.bind_some, hx, ckM, mInt, bd2, mBits]
    exact ⟨_, rfl, mvInt _, fsInt _⟩
  · rw [if_neg (by decide), if_neg (by decide), if_neg (by decide), if_neg (by decide), if_neg (by decide), if_neg (by decide), if_neg (by decide), if_neg (by decide), if_neg (by decide), if_pos (show iN 9 = 9 from rfl)]
    exact ⟨h, rfl, H, FS.rf _ _⟩
  · rw [if_neg (by decide), if_neg (by decide), if_neg (by decide), if_neg (by decide), if_neg (by decide), if_neg (by decide), if_neg (by decide), if_neg (by decide), if_neg (by decide), if_neg (by decide), if_pos (show iN 10 = 10 from rfl)]
    exact ⟨h, rfl, H, FS.rf _ _⟩
  · rw [if_neg (by decide), if_neg (by decide), if_neg (by decide), if_neg (by decide), if_neg (by decide), if_neg (by decide), if_neg (by decide), if_neg (by decide), if_neg (by decide), if_neg (by decide), if_neg (by decide), if_pos (show iN 11 = 11 from rfl)]
    exact ⟨h, rfl, H, FS.rf _ _⟩
  · rw [if_neg (by decide), if_neg (by decide), if_neg (by decide), if_neg (by decide), if_neg (by decide), if_neg (by decide), if_neg (by decide), if_neg (by decide), if_neg (by decide), if_neg (by decide), if_neg (by decide), if_neg (by decide)]
    exact ⟨h, rfl, H, FS.rf _ _⟩
theorem mFP2 {h : hp} (w : WF h) {t m q : Nat} {x : Int32} {r : UInt32} {n : Nat} {f : Nat → Int32} (ht : t < 10) (H : MV h t (2, x, r, n, f)) (g : gF r) (hq : q < 13) : ∃ h', fX14_plain 165 (iN t) (iN q) h = some (iN (fltS q (iN m) (2, x, r, n, f)).1, h') ∧ MV h' t (fltS q (iN m) (2, x, r, n, f)).2 ∧ FS (sP t) h h' := by
  have hk : hI h 166 t = 2 := H.1
  unfold fX14_plain
  rw [MR0 w, Option.bind_some, ML166 w ht, Option.bind_some, hk, pkA2]
  rw [pkB2]
  have hx : hF h 170 t = r := H.2.2.2.1 rfl
  have hf := gF_fin g
  have z4 : ¬ ((4096 : Int32) = 0) := by decide
  have hqs : q = 0 ∨ q = 1 ∨ q = 2 ∨ q = 3 ∨ q = 4 ∨ q = 5 ∨ q = 6 ∨ q = 7 ∨ q = 8 ∨ q = 9 ∨ q = 10 ∨ q = 11 ∨ q = 12 := by omega
  rcases hqs with rfl | rfl | rfl | rfl | rfl | rfl | rfl | rfl | rfl | rfl | rfl | rfl | rfl
  · rw [if_pos (show iN 0 = 0 from rfl)]
    exact ⟨h, rfl, H, FS.rf _ _⟩
  · rw [if_neg (by decide), if_pos (show iN 1 = 1 from rfl)]
    exact ⟨h, rfl, H, FS.rf _ _⟩
  · rw [if_neg (by decide), if_neg (by decide), if_pos (show iN 2 = 2 from rfl)]
    exact ⟨h, rfl, H, FS.rf _ _⟩
  · rw [if_neg (by decide), if_neg (by decide), if_neg (by decide), if_pos (show iN 3 = 3 from rfl)]
    exact ⟨h, rfl, H, FS.rf _ _⟩
  · rw [if_neg (by decide), if_neg (by decide), if_neg (by decide), if_neg (by decide), if_pos (show iN 4 = 4 from rfl)]
    have nn : Jvm.FP.Core.fIsNaN (FP.fmul r 1056964608) = false := Jvm.FP.Core.fmul_out hf (by rw [Jvm.FP.Core.fin_bits32]; decide)
    simp (disch := (first | assumption | (simp only [WF_e1, WF_e2, WF_e3, WF_e4, WF_e5]; assumption) | omega | decide)) only [jn_e, zz01, zz02, zz03, zz04, zz10, zz12, zz13, zz14, zz20, zz21, zz23, zz24, zz30, zz31, zz32, zz34, zz40, zz41, zz42, zz43, if_true, if_false, MR4, ML170, Option.bind_some, hx, fnn_ok nn, ckM, mReal]
    exact ⟨_, rfl, mvReal _, fsReal _⟩
  · rw [if_neg (by decide), if_neg (by decide), if_neg (by decide), if_neg (by decide), if_neg (by decide), if_pos (show iN 5 = 5 from rfl)]
    have nn : Jvm.FP.Core.fIsNaN (FP.fdiv r 1077936128) = false := Jvm.FP.Core.fdiv_out hf.notNaN (by rw [Jvm.FP.Core.fin_bits32]; decide) (by rw [Jvm.FP.Core.zero_bits232]; decide)
    simp (disch := (first | assumption | (simp only [WF_e1, WF_e2, WF_e3, WF_e4, WF_e5]; assumption) | omega | decide)) only [jn_e, zz01, zz02, zz03, zz04, zz10, zz12, zz13, zz14, zz20, zz21, zz23, zz24, zz30, zz31, zz32, zz34, zz40, zz41, zz42, zz43, if_true, if_false, MR4, ML170, Option.bind_some, hx, fnn_ok nn, ckM, mReal]
    exact ⟨_, rfl, mvReal _, fsReal _⟩
  · rw [if_neg (by decide), if_neg (by decide), if_neg (by decide), if_neg (by decide), if_neg (by decide), if_neg (by decide), if_pos (show iN 6 = 6 from rfl)]
    simp (disch := (first | assumption | (simp only [WF_e1, WF_e2, WF_e3, WF_e4, WF_e5]; assumption) | omega | decide)) only [jn_e, zz01, zz02, zz03, zz04, zz10, zz12, zz13, zz14, zz20, zz21, zz23, zz24, zz30, zz31, zz32, zz34, zz40, zz41, zz42, zz43, if_true, if_false, MR4, ML170, Option.bind_some, hx, ckM, mInt]
    exact ⟨_, rfl, mvInt _, fsInt _⟩
  · rw [if_neg (by decide), if_neg (by decide), if_neg (by decide), if_neg (by decide), if_neg (by decide), if_neg (by decide), if_neg (by decide), if_pos (show iN 7 = 7 from rfl)]
    exact ⟨h, rfl, H, FS.rf _ _⟩
  · rw [if_neg (by decide), if_neg (by decide), if_neg (by decide), if_neg (by decide), if_neg (by decide), if_neg (by decide), if_neg (by decide), if_neg (by decide), if_pos (show iN 8 = 8 from rfl)]
    simp (disch := (first | assumption | (simp only [WF_e1, WF_e2, WF_e3, WF_e4, WF_e5]; assumption) | omega | decide)) only [jn_e, zz01, zz02, zz03, zz04, zz10, zz12, zz13, zz14, zz20, zz21, zz23, zz24, zz30, zz31, zz32, zz34, zz40, zz41, zz42, zz43, if_true, if_false, MR4, ML170, Option.bind_some, hx, ckM, mInt, bd2, mFbits hf, dvI, z4, if_false]
    exact ⟨_, rfl, mvInt _, fsInt _⟩
  · rw [if_neg (by decide), if_neg (by decide), if_neg (by decide), if_neg (by decide), if_neg (by decide), if_neg (by decide), if_neg (by decide), if_neg (by decide), if_neg (by decide), if_pos (show iN 9 = 9 from rfl)]
    exact ⟨h, rfl, H, FS.rf _ _⟩
  · rw [if_neg (by decide), if_neg (by decide), if_neg (by decide), if_neg (by decide), if_neg (by decide), if_neg (by decide), if_neg (by decide), if_neg (by decide), if_neg (by decide), if_neg (by decide), if_pos (show iN 10 = 10 from rfl)]
    exact ⟨h, rfl, H, FS.rf _ _⟩
  · rw [if_neg (by decide), if_neg (by decide), if_neg (by decide), if_neg (by decide), if_neg (by decide), if_neg (by decide), if_neg (by decide), if_neg (by decide), if_neg (by decide), if_neg (by decide), if_neg (by decide), if_pos (show iN 11 = 11 from rfl)]
    exact ⟨h, rfl, H, FS.rf _ _⟩
  · rw [if_neg (by decide), if_neg (by decide), if_neg (by decide), if_neg (by decide), if_neg (by decide), if_neg (by decide), if_neg (by decide), if_neg (by decide), if_neg (by decide), if_neg (by decide), if_neg (by decide), if_neg (by decide)]
    exact ⟨h, rfl, H, FS.rf _ _⟩
theorem mFP3 {h : hp} (w : WF h) {t m q : Nat} {x : Int32} {r : UInt32} {n : Nat} {f : Nat → Int32} (ht : t < 10) (H : MV h t (3, x, r, n, f)) (hq : q < 13) : ∃ h', fX14_plain 165 (iN t) (iN q) h = some (iN (fltS q (iN m) (3, x, r, n, f)).1, h') ∧ MV h' t (fltS q (iN m) (3, x, r, n, f)).2 ∧ FS (sP t) h h' := by
  have hk : hI h 166 t = 3 := H.1
  unfold fX14_plain
  rw [MR0 w, Option.bind_some, ML166 w ht, Option.bind_some, hk, pkA3]
  rw [pkB3]
  obtain ⟨hs, hn, hf⟩ := H.2.2.2.2 (by show 3 ≤ 3; decide)
  replace hs : hI h 168 t = iN n := hs
  replace hn : n ≤ 16 := hn
  replace hf : ∀ k, k < n → hI h 169 (16 * t + k) = f k := hf
  have self : sI h 169 (hI h 169) = h := sI_self h 169
  have self9 : sI h 169 (rw9 t n (hI h 169) f) = h := (sI_congr h 169 fun j => by
    unfold rw9
    by_cases c : 16 * t ≤ j ∧ j < 16 * t + n
    · rw [if_pos c, ← hf _ (by omega)]; congr 1; omega
    · rw [if_neg c]).trans (sI_self h 169)
  have hqs : q = 0 ∨ q = 1 ∨ q = 2 ∨ q = 3 ∨ q = 4 ∨ q = 5 ∨ q = 6 ∨ q = 7 ∨ q = 8 ∨ q = 9 ∨ q = 10 ∨ q = 11 ∨ q = 12 := by omega
  rcases hqs with rfl | rfl | rfl | rfl | rfl | rfl | rfl | rfl | rfl | rfl | rfl | rfl | rfl
  · rw [if_pos (show iN 0 = 0 from rfl)]
    have e := mCases_l w ht hs hn 97 (-32) (by decide) n 0 FU (hI h 169) (by omega) (by show n < 1000000; omega)
    rw [self] at e
    simp (disch := (first | assumption | (simp only [WF_e1, WF_e2, WF_e3, WF_e4, WF_e5]; assumption) | omega | decide)) only [jn_e, zz01, zz02, zz03, zz04, zz10, zz12, zz13, zz14, zz20, zz21, zz23, zz24, zz30, zz31, zz32, zz34, zz40, zz41, zz42, zz43, if_true, if_false, ckM, Option.bind_some, fX14_cases, show fX14_cases_l3 FU 165 (iN t) 97 (-32) 0 h = _ from e]
    refine ⟨_, rfl, MV.row (s := 3) (n := n) hk hs (by decide) (by decide) hn fun k hk => ?_, fsRow fun j hj => ?_⟩
    · rw [if_pos (by omega), hf k hk]
      show _ = upF (f k)
      unfold upF
      simp only [Int32.le_iff_toInt_le]
      rfl
    · rw [if_neg (by omega)]
  · rw [if_neg (by decide), if_pos (show iN 1 = 1 from rfl)]
    have e := mCases_l w ht hs hn 65 32 (by decide) n 0 FU (hI h 169) (by omega) (by show n < 1000000; omega)
    rw [self] at e
    simp (disch := (first | assumption | (simp only [WF_e1, WF_e2, WF_e3, WF_e4, WF_e5]; assumption) | omega | decide)) only [jn_e, zz01, zz02, zz03, zz04, zz10, zz12, zz13, zz14, zz20, zz21, zz23, zz24, zz30, zz31, zz32, zz34, zz40, zz41, zz42, zz43, if_true, if_false, ckM, Option.bind_some, fX14_cases, show fX14_cases_l3 FU 165 (iN t) 65 32 0 h = _ from e]
    refine ⟨_, rfl, MV.row (s := 3) (n := n) hk hs (by decide) (by decide) hn fun k hk => ?_, fsRow fun j hj => ?_⟩
    · rw [if_pos (by omega), hf k hk]
      show _ = loF (f k)
      unfold loF
      simp only [Int32.le_iff_toInt_le]
      rfl
    · rw [if_neg (by omega)]
  · rw [if_neg (by decide), if_neg (by decide), if_pos (show iN 2 = 2 from rfl)]
    have e := mRev_l w ht hs hn (n / 2) 0 FU (hI h 169) (by omega) (by show _ < 1000000; omega)
    rw [self] at e
    simp (disch := (first | assumption | (simp only [WF_e1, WF_e2, WF_e3, WF_e4, WF_e5]; assumption) | omega | decide)) only [jn_e, zz01, zz02, zz03, zz04, zz10, zz12, zz13, zz14, zz20, zz21, zz23, zz24, zz30, zz31, zz32, zz34, zz40, zz41, zz42, zz43, if_true, if_false, ckM, Option.bind_some, fX14_turnsAbout, show fX14_turnsAbout_l2 FU 165 (iN t) 0 h = _ from e]
    refine ⟨_, rfl, MV.row (s := 3) (n := n) hk hs (by decide) (by decide) hn fun k hk => ?_, fsRow fun j hj => ?_⟩
    · rw [if_pos (by omega), show 16 * t + k - 16 * t = k by omega, hf _ (by omega)]
    · rw [if_neg (by omega)]
  · rw [if_neg (by decide), if_neg (by decide), if_neg (by decide), if_pos (show iN 3 = 3 from rfl)]
    simp (disch := (first | assumption | (simp only [WF_e1, WF_e2, WF_e3, WF_e4, WF_e5]; assumption) | omega | decide)) only [jn_e, zz01, zz02, zz03, zz04, zz10, zz12, zz13, zz14, zz20, zz21, zz23, zz24, zz30, zz31, zz32, zz34, zz40, zz41, zz42, zz43, if_true, if_false, MR2, ML168, Option.bind_some, hs, ckM, mInt]
    exact ⟨_, rfl, mvInt _, fsInt _⟩
  · rw [if_neg (by decide), if_neg (by decide), if_neg (by decide), if_neg (by decide), if_pos (show iN 4 = 4 from rfl)]
    exact ⟨h, rfl, H, FS.rf _ _⟩
  · rw [if_neg (by decide), if_neg (by decide), if_neg (by decide), if_neg (by decide), if_neg (by decide), if_pos (show iN 5 = 5 from rfl)]
    exact ⟨h, rfl, H, FS.rf _ _⟩
  · rw [if_neg (by decide), if_neg (by decide), if_neg (by decide), if_neg (by decide), if_neg (by decide), if_neg (by decide), if_pos (show iN 6 = 6 from rfl)]
    have e := mFig_l w ht hs hn hf n 0 FU 0 (by omega) (by show n < 1000000; omega)
    simp (disch := (first | assumption | (simp only [WF_e1, WF_e2, WF_e3, WF_e4, WF_e5]; assumption) | omega | decide)) only [jn_e, zz01, zz02, zz03, zz04, zz10, zz12, zz13, zz14, zz20, zz21, zz23, zz24, zz30, zz31, zz32, zz34, zz40, zz41, zz42, zz43, if_true, if_false, ckM, Option.bind_some, bd2, fX14_figures, show fX14_figures_l4 FU 165 (iN t) 0 0 h = _ from e, mInt]
    exact ⟨_, rfl, mvInt _, fsInt _⟩
  · rw [if_neg (by decide), if_neg (by decide), if_neg (by decide), if_neg (by decide), if_neg (by decide), if_neg (by decide), if_neg (by decide), if_pos (show iN 7 = 7 from rfl)]
    exact ⟨h, rfl, H, FS.rf _ _⟩
  · rw [if_neg (by decide), if_neg (by decide), if_neg (by decide), if_neg (by decide), if_neg (by decide), if_neg (by decide), if_neg (by decide), if_neg (by decide), if_pos (show iN 8 = 8 from rfl)]
    exact ⟨h, rfl, H, FS.rf _ _⟩
  · rw [if_neg (by decide), if_neg (by decide), if_neg (by decide), if_neg (by decide), if_neg (by decide), if_neg (by decide), if_neg (by decide), if_neg (by decide), if_neg (by decide), if_pos (show iN 9 = 9 from rfl)]
    by_cases c0 : n = 0
    · subst c0
      have z : iN 0 ≤ 0 := by decide
      simp (disch := (first | assumption | (simp only [WF_e1, WF_e2, WF_e3, WF_e4, WF_e5]; assumption) | omega | decide)) only [jn_e, zz01, zz02, zz03, zz04, zz10, zz12, zz13, zz14, zz20, zz21, zz23, zz24, zz30, zz31, zz32, zz34, zz40, zz41, zz42, zz43, if_true, if_false, MR0, MR2, MR3, ML166, ML168, MS168, MS169, Option.bind_some, hs, ckM, fX14_ends, z, jn, if_true, if_false, hk, zz30, i_mullit, hI_pI, Nat.reduceEqDiff, false_and]
      refine ⟨_, rfl, ⟨by rw [hI_pI, if_neg (by simp), hI_pI, if_neg (by simp)]; exact hk, by show 3 ≤ 4; decide, fun e => absurd e (by show ¬ 3 = 1; decide), fun e => absurd e (by show ¬ 3 = 2; decide), fun _ => ⟨by rw [hI_pI, if_pos ⟨rfl, rfl⟩]; rfl, by show 0 ≤ 16; decide, fun k hk => absurd hk (by show ¬ k < 0; omega)⟩⟩, FS.tr (FS.pI (.inr ⟨rfl, by omega, by omega⟩)) (FS.pI (by simp [sP]))⟩
    · have z : ¬ (iN n ≤ 0) := by rw [i_le_lit (by omega) (by omega)]; omega
      have z1 : ((1 : Int32) = 0) = False := eq_false (by decide)
      have ix : ∀ a, iN a + (0 : Int32) = iN (a + 0) := fun a => i_add a 0
      simp (disch := (first | assumption | (simp only [WF_e1, WF_e2, WF_e3, WF_e4, WF_e5]; assumption) | omega | decide)) only [jn_e, zz01, zz02, zz03, zz04, zz10, zz12, zz13, zz14, zz20, zz21, zz23, zz24, zz30, zz31, zz32, zz34, zz40, zz41, zz42, zz43, if_true, if_false, MR0, MR2, MR3, ML166, ML168, ML169, MS168, MS169, Option.bind_some, hs, ckM, fX14_ends, ix, z, z1, jn, if_true, if_false, hk, zz30, i_mullit, i_add, hI_pI, Nat.reduceEqDiff, false_and, hf _ (show 0 < n by omega)]
      refine ⟨_, rfl, ⟨by rw [hI_pI, if_neg (by simp), hI_pI, if_neg (by simp)]; exact hk, by show 3 ≤ 4; decide, fun e => absurd e (by show ¬ 3 = 1; decide), fun e => absurd e (by show ¬ 3 = 2; decide), fun _ => ⟨?_, by show min n 1 ≤ 16; omega, fun k hk => ?_⟩⟩, FS.tr (FS.pI (.inr ⟨rfl, by omega, by omega⟩)) (FS.pI (by simp [sP]))⟩
      · rw [hI_pI, if_pos ⟨rfl, rfl⟩]; show (1 : Int32) = iN (min n 1); rw [show min n 1 = 1 by omega]; rfl
      · have hk0 : k = 0 := by have : k < min n 1 := hk; omega
        subst hk0
        rw [hI_pI, if_neg (by simp), hI_pI, if_pos ⟨rfl, rfl⟩]; rfl
  · rw [if_neg (by decide), if_neg (by decide), if_neg (by decide), if_neg (by decide), if_neg (by decide), if_neg (by decide), if_neg (by decide), if_neg (by decide), if_neg (by decide), if_neg (by decide), if_pos (show iN 10 = 10 from rfl)]
    by_cases c0 : n = 0
    · subst c0
      have z : iN 0 ≤ 0 := by decide
      simp (disch := (first | assumption | (simp only [WF_e1, WF_e2, WF_e3, WF_e4, WF_e5]; assumption) | omega | decide)) only [jn_e, zz01, zz02, zz03, zz04, zz10, zz12, zz13, zz14, zz20, zz21, zz23, zz24, zz30, zz31, zz32, zz34, zz40, zz41, zz42, zz43, if_true, if_false, MR0, MR2, MR3, ML166, ML168, MS168, MS169, Option.bind_some, hs, ckM, fX14_ends, z, jn, if_true, if_false, hk, zz30, i_mullit, hI_pI, Nat.reduceEqDiff, false_and]
      refine ⟨_, rfl, ⟨by rw [hI_pI, if_neg (by simp), hI_pI, if_neg (by simp)]; exact hk, by show 3 ≤ 4; decide, fun e => absurd e (by show ¬ 3 = 1; decide), fun e => absurd e (by show ¬ 3 = 2; decide), fun _ => ⟨by rw [hI_pI, if_pos ⟨rfl, rfl⟩]; rfl, by show 0 ≤ 16; decide, fun k hk => absurd hk (by show ¬ k < 0; omega)⟩⟩, FS.tr (FS.pI (.inr ⟨rfl, by omega, by omega⟩)) (FS.pI (by simp [sP]))⟩
    · have z : ¬ (iN n ≤ 0) := by rw [i_le_lit (by omega) (by omega)]; omega
      have z1 : ((1 : Int32) = 0) = False := eq_false (by decide)
      have ix : (iN n - 1 : Int32) = iN (n - 1) := i_sub1 (by omega)
      simp (disch := (first | assumption | (simp only [WF_e1, WF_e2, WF_e3, WF_e4, WF_e5]; assumption) | omega | decide)) only [jn_e, zz01, zz02, zz03, zz04, zz10, zz12, zz13, zz14, zz20, zz21, zz23, zz24, zz30, zz31, zz32, zz34, zz40, zz41, zz42, zz43, if_true, if_false, MR0, MR2, MR3, ML166, ML168, ML169, MS168, MS169, Option.bind_some, hs, ckM, fX14_ends, ix, z, z1, jn, if_true, if_false, hk, zz30, i_mullit, i_add, hI_pI, Nat.reduceEqDiff, false_and, hf _ (show n - 1 < n by omega)]
      refine ⟨_, rfl, ⟨by rw [hI_pI, if_neg (by simp), hI_pI, if_neg (by simp)]; exact hk, by show 3 ≤ 4; decide, fun e => absurd e (by show ¬ 3 = 1; decide), fun e => absurd e (by show ¬ 3 = 2; decide), fun _ => ⟨?_, by show min n 1 ≤ 16; omega, fun k hk => ?_⟩⟩, FS.tr (FS.pI (.inr ⟨rfl, by omega, by omega⟩)) (FS.pI (by simp [sP]))⟩
      · rw [hI_pI, if_pos ⟨rfl, rfl⟩]; show (1 : Int32) = iN (min n 1); rw [show min n 1 = 1 by omega]; rfl
      · have hk0 : k = 0 := by have : k < min n 1 := hk; omega
        subst hk0
        rw [hI_pI, if_neg (by simp), hI_pI, if_pos ⟨rfl, rfl⟩]; rfl
  · rw [if_neg (by decide), if_neg (by decide), if_neg (by decide), if_neg (by decide), if_neg (by decide), if_neg (by decide), if_neg (by decide), if_neg (by decide), if_neg (by decide), if_neg (by decide), if_neg (by decide), if_pos (show iN 11 = 11 from rfl)]
    exact ⟨h, rfl, H, FS.rf _ _⟩
  · rw [if_neg (by decide), if_neg (by decide), if_neg (by decide), if_neg (by decide), if_neg (by decide), if_neg (by decide), if_neg (by decide), if_neg (by decide), if_neg (by decide), if_neg (by decide), if_neg (by decide), if_neg (by decide)]
    exact ⟨h, rfl, H, FS.rf _ _⟩
theorem mFP4 {h : hp} (w : WF h) {t m q : Nat} {x : Int32} {r : UInt32} {n : Nat} {f : Nat → Int32} (ht : t < 10) (H : MV h t (4, x, r, n, f)) (hq : q < 13) : ∃ h', fX14_plain 165 (iN t) (iN q) h = some (iN (fltS q (iN m) (4, x, r, n, f)).1, h') ∧ MV h' t (fltS q (iN m) (4, x, r, n, f)).2 ∧ FS (sP t) h h' := by
  have hk : hI h 166 t = 4 := H.1
  unfold fX14_plain
  rw [MR0 w, Option.bind_some, ML166 w ht, Option.bind_some, hk, pkA4]
  rw [pkB4]
  obtain ⟨hs, hn, hf⟩ := H.2.2.2.2 (by show 3 ≤ 4; decide)
  replace hs : hI h 168 t = iN n := hs
  replace hn : n ≤ 16 := hn
  replace hf : ∀ k, k < n → hI h 169 (16 * t + k) = f k := hf
  have self : sI h 169 (hI h 169) = h := sI_self h 169
  have self9 : sI h 169 (rw9 t n (hI h 169) f) = h := (sI_congr h 169 fun j => by
    unfold rw9
    by_cases c : 16 * t ≤ j ∧ j < 16 * t + n
    · rw [if_pos c, ← hf _ (by omega)]; congr 1; omega
    · rw [if_neg c]).trans (sI_self h 169)
  have hqs : q = 0 ∨ q = 1 ∨ q = 2 ∨ q = 3 ∨ q = 4 ∨ q = 5 ∨ q = 6 ∨ q = 7 ∨ q = 8 ∨ q = 9 ∨ q = 10 ∨ q = 11 ∨ q = 12 := by omega
  rcases hqs with rfl | rfl | rfl | rfl | rfl | rfl | rfl | rfl | rfl | rfl | rfl | rfl | rfl
  · rw [if_pos (show iN 0 = 0 from rfl)]
    exact ⟨h, rfl, H, FS.rf _ _⟩
  · rw [if_neg (by decide), if_pos (show iN 1 = 1 from rfl)]
    exact ⟨h, rfl, H, FS.rf _ _⟩
  · rw [if_neg (by decide), if_neg (by decide), if_pos (show iN 2 = 2 from rfl)]
    have e := mRev_l w ht hs hn (n / 2) 0 FU (hI h 169) (by omega) (by show _ < 1000000; omega)
    rw [self] at e
    simp (disch := (first | assumption | (simp only [WF_e1, WF_e2, WF_e3, WF_e4, WF_e5]; assumption) | omega | decide)) only [jn_e, zz01, zz02, zz03, zz04, zz10, zz12, zz13, zz14, zz20, zz21, zz23, zz24, zz30, zz31, zz32, zz34, zz40, zz41, zz42, zz43, if_true, if_false, ckM, Option.bind_some, fX14_turnsAbout, show fX14_turnsAbout_l2 FU 165 (iN t) 0 h = _ from e]
    refine ⟨_, rfl, MV.row (s := 4) (n := n) hk hs (by decide) (by decide) hn fun k hk => ?_, fsRow fun j hj => ?_⟩
    · rw [if_pos (by omega), show 16 * t + k - 16 * t = k by omega, hf _ (by omega)]
    · rw [if_neg (by omega)]
  · rw [if_neg (by decide), if_neg (by decide), if_neg (by decide), if_pos (show iN 3 = 3 from rfl)]
    simp (disch := (first | assumption | (simp only [WF_e1, WF_e2, WF_e3, WF_e4, WF_e5]; assumption) | omega | decide)) only [jn_e, zz01, zz02, zz03, zz04, zz10, zz12, zz13, zz14, zz20, zz21, zz23, zz24, zz30, zz31, zz32, zz34, zz40, zz41, zz42, zz43, if_true, if_false, MR2, ML168, Option.bind_some, hs, ckM, mInt]
    exact ⟨_, rfl, mvInt _, fsInt _⟩
  · rw [if_neg (by decide), if_neg (by decide), if_neg (by decide), if_neg (by decide), if_pos (show iN 4 = 4 from rfl)]
    exact ⟨h, rfl, H, FS.rf _ _⟩
  · rw [if_neg (by decide), if_neg (by decide), if_neg (by decide), if_neg (by decide), if_neg (by decide), if_pos (show iN 5 = 5 from rfl)]
    exact ⟨h, rfl, H, FS.rf _ _⟩
  · rw [if_neg (by decide), if_neg (by decide), if_neg (by decide), if_neg (by decide), if_neg (by decide), if_neg (by decide), if_pos (show iN 6 = 6 from rfl)]
    exact ⟨h, rfl, H, FS.rf _ _⟩
  · rw [if_neg (by decide), if_neg (by decide), if_neg (by decide), if_neg (by decide), if_neg (by decide), if_neg (by decide), if_neg (by decide), if_pos (show iN 7 = 7 from rfl)]
    exact ⟨h, rfl, H, FS.rf _ _⟩
  · rw [if_neg (by decide), if_neg (by decide), if_neg (by decide), if_neg (by decide), if_neg (by decide), if_neg (by decide), if_neg (by decide), if_neg (by decide), if_pos (show iN 8 = 8 from rfl)]
    exact ⟨h, rfl, H, FS.rf _ _⟩
  · rw [if_neg (by decide), if_neg (by decide), if_neg (by decide), if_neg (by decide), if_neg (by decide), if_neg (by decide), if_neg (by decide), if_neg (by decide), if_neg (by decide), if_pos (show iN 9 = 9 from rfl)]
    rw [show fltS 9 (iN m) (4, x, r, n, f) = (0, if n = 0 then vN else vI (f (0))) from rfl]
    by_cases c0 : n = 0
    · subst c0
      have z : iN 0 ≤ 0 := by decide
      simp (disch := (first | assumption | (simp only [WF_e1, WF_e2, WF_e3, WF_e4, WF_e5]; assumption) | omega | decide)) only [jn_e, zz01, zz02, zz03, zz04, zz10, zz12, zz13, zz14, zz20, zz21, zz23, zz24, zz30, zz31, zz32, zz34, zz40, zz41, zz42, zz43, if_true, if_false, MR0, MR2, ML166, ML168, MS166, Option.bind_some, hs, ckM, fX14_ends, z, jn, if_true, if_false, hk, zz43]
      refine ⟨_, rfl, ⟨by rw [hI_pI, if_pos ⟨rfl, rfl⟩]; rfl, by show 0 ≤ 4; decide, fun e => absurd e (by show ¬ 0 = 1; decide), fun e => absurd e (by show ¬ 0 = 2; decide), fun e => absurd e (by show ¬ 3 ≤ 0; decide)⟩, FS.pI (by simp [sP])⟩
    · have z : ¬ (iN n ≤ 0) := by rw [i_le_lit (by omega) (by omega)]; omega
      have z1 : ((1 : Int32) = 0) = False := eq_false (by decide)
      have ix : ∀ a, iN a + (0 : Int32) = iN (a + 0) := fun a => i_add a 0
      simp (disch := (first | assumption | (simp only [WF_e1, WF_e2, WF_e3, WF_e4, WF_e5]; assumption) | omega | decide)) only [jn_e, zz01, zz02, zz03, zz04, zz10, zz12, zz13, zz14, zz20, zz21, zz23, zz24, zz30, zz31, zz32, zz34, zz40, zz41, zz42, zz43, if_true, if_false, MR0, MR2, MR3, ML166, ML168, ML169, Option.bind_some, hs, ckM, fX14_ends, ix, z, z1, jn, if_true, if_false, hk, zz43, i_mullit, i_add, hf _ (show 0 < n by omega), mInt, c0]
      exact ⟨_, rfl, mvInt _, fsInt _⟩
  · rw [if_neg (by decide), if_neg (by decide), if_neg (by decide), if_neg (by decide), if_neg (by decide), if_neg (by decide), if_neg (by decide), if_neg (by decide), if_neg (by decide), if_neg (by decide), if_pos (show iN 10 = 10 from rfl)]
    rw [show fltS 10 (iN m) (4, x, r, n, f) = (0, if n = 0 then vN else vI (f (n - 1))) from rfl]
    by_cases c0 : n = 0
    · subst c0
      have z : iN 0 ≤ 0 := by decide
      simp (disch := (first | assumption | (simp only [WF_e1, WF_e2, WF_e3, WF_e4, WF_e5]; assumption) | omega | decide)) only [jn_e, zz01, zz02, zz03, zz04, zz10, zz12, zz13, zz14, zz20, zz21, zz23, zz24, zz30, zz31, zz32, zz34, zz40, zz41, zz42, zz43, if_true, if_false, MR0, MR2, ML166, ML168, MS166, Option.bind_some, hs, ckM, fX14_ends, z, jn, if_true, if_false, hk, zz43]
      refine ⟨_, rfl, ⟨by rw [hI_pI, if_pos ⟨rfl, rfl⟩]; rfl, by show 0 ≤ 4; decide, fun e => absurd e (by show ¬ 0 = 1; decide), fun e => absurd e (by show ¬ 0 = 2; decide), fun e => absurd e (by show ¬ 3 ≤ 0; decide)⟩, FS.pI (by simp [sP])⟩
    · have z : ¬ (iN n ≤ 0) := by rw [i_le_lit (by omega) (by omega)]; omega
      have z1 : ((1 : Int32) = 0) = False := eq_false (by decide)
      have ix : (iN n - 1 : Int32) = iN (n - 1) := i_sub1 (by omega)
      simp (disch := (first | assumption | (simp only [WF_e1, WF_e2, WF_e3, WF_e4, WF_e5]; assumption) | omega | decide)) only [jn_e, zz01, zz02, zz03, zz04, zz10, zz12, zz13, zz14, zz20, zz21, zz23, zz24, zz30, zz31, zz32, zz34, zz40, zz41, zz42, zz43, if_true, if_false, MR0, MR2, MR3, ML166, ML168, ML169, Option.bind_some, hs, ckM, fX14_ends, ix, z, z1, jn, if_true, if_false, hk, zz43, i_mullit, i_add, hf _ (show n - 1 < n by omega), mInt, c0]
      exact ⟨_, rfl, mvInt _, fsInt _⟩
  · rw [if_neg (by decide), if_neg (by decide), if_neg (by decide), if_neg (by decide), if_neg (by decide), if_neg (by decide), if_neg (by decide), if_neg (by decide), if_neg (by decide), if_neg (by decide), if_neg (by decide), if_pos (show iN 11 = 11 from rfl)]
    have e := mSum_l w ht hs hn hf n 0 FU 0 (by omega) (by show n < 1000000; omega)
    obtain ⟨h1, e1, e2, e3⟩ := mBecomes w ht (suF f n 0 0) H
    simp (disch := (first | assumption | (simp only [WF_e1, WF_e2, WF_e3, WF_e4, WF_e5]; assumption) | omega | decide)) only [jn_e, zz01, zz02, zz03, zz04, zz10, zz12, zz13, zz14, zz20, zz21, zz23, zz24, zz30, zz31, zz32, zz34, zz40, zz41, zz42, zz43, if_true, if_false, ckM, Option.bind_some, bd2, fX14_sums, show fX14_sums_l5 FU 165 (iN t) 0 0 h = _ from e, e1]
    exact ⟨h1, rfl, e2, e3⟩
  · rw [if_neg (by decide), if_neg (by decide), if_neg (by decide), if_neg (by decide), if_neg (by decide), if_neg (by decide), if_neg (by decide), if_neg (by decide), if_neg (by decide), if_neg (by decide), if_neg (by decide), if_neg (by decide)]
    have e := mSort_l w ht hs hn (hI h 169) (n - 1) 1 FU f (by omega) (by omega) (by show _ < 1000000; omega)
    rw [self9] at e
    simp (disch := (first | assumption | (simp only [WF_e1, WF_e2, WF_e3, WF_e4, WF_e5]; assumption) | omega | decide)) only [jn_e, zz01, zz02, zz03, zz04, zz10, zz12, zz13, zz14, zz20, zz21, zz23, zz24, zz30, zz31, zz32, zz34, zz40, zz41, zz42, zz43, if_true, if_false, ckM, Option.bind_some, fX14_sorts, show fX14_sorts_l2 FU 165 (iN t) 1 h = _ from e]
    refine ⟨_, rfl, MV.row (s := 4) (n := n) hk hs (by decide) (by decide) hn fun k hk => rw9_at _ _ _ _ hk, fsRow fun j hj => ?_⟩
    unfold rw9
    rw [if_neg (by omega)]

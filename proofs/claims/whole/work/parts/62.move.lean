/-! rows: move, twin -/
theorem spans_e {h : hp} (w : WF h) {r n : Nat} (hr : r < 6) (hn : n ≤ 60) (h1 : hI h (89 + 3 * r) 1 = iN n) (i c : Int32) : fX8_spans (89 + 3 * r) i c h = some (if 0 ≤ i.toInt ∧ 0 ≤ c.toInt ∧ i.toInt + c.toInt ≤ n then 1 else 0, h) := by
  have k1 : c < 0 ↔ c.toInt < 0 := by rw [Int32.lt_iff_toInt_lt, show (0 : Int32).toInt = 0 by decide]
  have k2 : i < 0 ↔ i.toInt < 0 := by rw [Int32.lt_iff_toInt_lt, show (0 : Int32).toInt = 0 by decide]
  have k3 : iN n < c ↔ (n : Int) < c.toInt := by rw [Int32.lt_iff_toInt_lt, i_toInt (by omega)]
  unfold fX8_spans
  by_cases c1 : c < 0
  · rw [if_pos c1, if_neg (fun q => by rw [k1] at c1; omega)]
  rw [if_neg c1]
  by_cases c2 : i < 0
  · rw [if_pos c2, if_neg (fun q => by rw [k2] at c2; omega)]
  rw [if_neg c2, gRow w hr, Option.bind_some, h1]
  by_cases c3 : iN n < c
  · rw [if_pos c3, if_neg (fun q => by rw [k3] at c3; omega)]
  rw [if_neg c3, Option.bind_some]
  rw [k1] at c1
  rw [k2] at c2
  rw [k3] at c3
  obtain ⟨c', hc', rfl⟩ := i_of2 (v := c) (n := n + 1) (by omega)
  have e1 : (iN c').toInt = c' := i_toInt (by omega)
  have e2 : (iN (n - c')).toInt = (n - c' : Nat) := i_toInt (by omega)
  rw [i_sub (by omega)]
  have k4 : iN (n - c') < i ↔ ((n - c' : Nat) : Int) < i.toInt := by rw [Int32.lt_iff_toInt_lt, e2]
  by_cases c4 : iN (n - c') < i
  · rw [if_pos c4, if_neg (fun q => by rw [k4] at c4; omega)]
  · rw [if_neg c4, if_pos (by rw [k4] at c4; omega)]
theorem sp_in {i c : Int32} {n : Nat} (hn : n ≤ 60) (q : 0 ≤ i.toInt ∧ 0 ≤ c.toInt ∧ i.toInt + c.toInt ≤ n) : ∃ p c' : Nat, i = iN p ∧ c = iN c' ∧ p + c' ≤ n := by
  obtain ⟨p, hp, rfl⟩ := i_of2 (v := i) (n := n + 1) (by omega)
  obtain ⟨c', hc, rfl⟩ := i_of2 (v := c) (n := n + 1) (by omega)
  rw [i_toInt (by omega), i_toInt (by omega)] at q
  exact ⟨p, c', rfl, rfl, by omega⟩
theorem sp_in2 {p c n : Nat} (hn : n ≤ 60) (h : p + c ≤ n) : 0 ≤ (iN p).toInt ∧ 0 ≤ (iN c).toInt ∧ (iN p).toInt + (iN c).toInt ≤ n := by
  rw [i_toInt (show p < 2147483648 by omega), i_toInt (show c < 2147483648 by omega)]; omega
theorem cpI_e {h : hp} {a b n m p q c : Nat} (ta : hT h a = (100, n)) (tb : hT h b = (100, m)) (hP : p + c ≤ n) (hq : q + c ≤ m) (hn : n ≤ 20000) (hm : m ≤ 20000) : cpI h a (iN p) b (iN q) (iN c) = some (pCI h a p b q c) := by
  have e1 : (iN p).toInt = p := i_toInt (by omega)
  have e2 : (iN q).toInt = q := i_toInt (by omega)
  have e3 : (iN c).toInt = c := i_toInt (by omega)
  unfold cpI
  rw [ta, tb, e1, e2, e3, i_clamp (by omega), i_clamp (by omega), i_clamp (by omega), if_pos]
  exact ⟨⟨rfl, rfl⟩, ⟨by omega, by omega, by omega⟩, by show (p : Int) + c ≤ (n : Nat); omega, by show (q : Int) + c ≤ (m : Nat); omega⟩
theorem cpF_e {h : hp} {a b n m p q c : Nat} (ta : hT h a = (101, n)) (tb : hT h b = (101, m)) (hP : p + c ≤ n) (hq : q + c ≤ m) (hn : n ≤ 20000) (hm : m ≤ 20000) : cpF h a (iN p) b (iN q) (iN c) = some (pCF h a p b q c) := by
  have e1 : (iN p).toInt = p := i_toInt (by omega)
  have e2 : (iN q).toInt = q := i_toInt (by omega)
  have e3 : (iN c).toInt = c := i_toInt (by omega)
  unfold cpF
  rw [ta, tb, e1, e2, e3, i_clamp (by omega), i_clamp (by omega), i_clamp (by omega), if_pos]
  exact ⟨⟨rfl, rfl⟩, ⟨by omega, by omega, by omega⟩, by show (p : Int) + c ≤ (n : Nat); omega, by show (q : Int) + c ≤ (m : Nat); omega⟩
/-- one row's items taken into another, in the class -/
theorem take_e {h : hp} (w : WF h) {a b n m p q c : Nat} (ha : a < 6) (hb : b < 6) (hn : n ≤ 60) (hm : m ≤ 60) (h1 : hI h (89 + 3 * a) 1 = iN n) (h2 : hI h (89 + 3 * b) 1 = iN m) (hP : p + c ≤ n) (hq : q + c ≤ m) : fX8_take (89 + 3 * b) (89 + 3 * a) (iN p) (iN q) (iN c) h = some (pCF (pCI h (90 + 3 * a) p (90 + 3 * b) q c) (91 + 3 * a) p (91 + 3 * b) q c) := by
  have w1 : WF (pCI h (90 + 3 * a) p (90 + 3 * b) q c) := w
  unfold fX8_take
  rw [ckRow w ha, Option.bind_some, spans_e w ha hn h1, bd2_s, if_pos (sp_in2 hn hP), if_neg z10, ckRow w hb, Option.bind_some, spans_e w hb hm h2, bd2_s, if_pos (sp_in2 hm hq), if_neg z10, gRow2 w ha, Option.bind_some, gRow2 w hb, Option.bind_some, cpI_e (RO_row w ha).2.1 (RO_row w hb).2.1 (by omega) (by omega) (by decide) (by decide), Option.bind_some, gRow3 w1 ha, Option.bind_some, gRow3 w1 hb, Option.bind_some, cpF_e (RO_row w1 ha).2.2.1 (RO_row w1 hb).2.2.1 (by omega) (by omega) (by decide) (by decide), Option.bind_some]
theorem item_e {h : hp} (w : WF h) {a b p q : Nat} (ha : a < 6) (hb : b < 6) (hP : p < 60) (hq : q < 60) : fX14_copiesItem 165 (iN a) (iN p) (iN b) (iN q) h = some (pF (pI h 194 (60 * b + q) (hI h 194 (60 * a + p))) 195 (60 * b + q) (hF h 195 (60 * a + p))) := by
  have w1 : ∀ x, WF (pI h 194 (60 * b + q) x) := fun _ => w
  unfold fX14_copiesItem
  rw [MR50 w, Option.bind_some, Option.bind_some, px, px, ML194 w (show 60 * a + p < 360 by omega), Option.bind_some, MS194 w (show 60 * b + q < 360 by omega), Option.bind_some, MR51 (w1 _), Option.bind_some, Option.bind_some, ML195 (w1 _) (show 60 * a + p < 360 by omega), Option.bind_some, MS195 (w1 _) (show 60 * b + q < 360 by omega), Option.bind_some]
  rfl
theorem mvF {a b p q c : Nat} (ha : a < 6) (hb : b < 6) (hP : p + c ≤ 60) (hq : q + c ≤ 60) (hpq : ¬ p ≤ q) : ∀ (d k n : Nat) (h : hp), WF h → k + d = c → d < n → ∃ h', fX14_move_l102 n 165 (iN a) (iN p) (iN b) (iN q) (iN c) (iN k) h = some h' ∧ HE h h' (fun x j => if x = 194 ∧ 60 * b + q + k ≤ j ∧ j < 60 * b + q + c then hI h 194 (60 * a + p + (j - (60 * b + q))) else hI h x j) (fun x j => if x = 195 ∧ 60 * b + q + k ≤ j ∧ j < 60 * b + q + c then hF h 195 (60 * a + p + (j - (60 * b + q))) else hF h x j) := by
  have ep : ¬ (iN p ≤ iN q) := by rw [i_le (by omega) (by omega)]; exact hpq
  intro d
  induction d with
  | zero =>
    intro k n h w hk hn
    obtain ⟨n, rfl⟩ : ∃ q, n = q + 1 := ⟨n - 1, by omega⟩
    have e : iN c ≤ iN k := by rw [i_le (by omega) (by omega)]; omega
    refine ⟨h, by rw [fX14_move_l102, if_pos e], rfl, rfl, rfl, rfl, fun x j => ?_, fun x j => ?_⟩
    · dsimp only; rw [if_neg (by omega)]
    · dsimp only; rw [if_neg (by omega)]
  | succ d ih =>
    intro k n h w hk hn
    obtain ⟨n, rfl⟩ : ∃ q, n = q + 1 := ⟨n - 1, by omega⟩
    have e : ¬ (iN c ≤ iN k) := by rw [i_le (by omega) (by omega)]; omega
    obtain ⟨h', e1, H⟩ := ih (k + 1) n (pF (pI h 194 (60 * b + (q + k)) (hI h 194 (60 * a + (p + k)))) 195 (60 * b + (q + k)) (hF h 195 (60 * a + (p + k)))) w (by omega) (by omega)
    refine ⟨h', ?_, H.1, H.2.1, H.2.2.1, H.2.2.2.1, fun x j => ?_, fun x j => ?_⟩
    · rw [fX14_move_l102, if_neg e, jn_e, if_neg ep]; dsimp only; rw [ckM w, Option.bind_some, i_add, i_add, item_e w ha hb (show p + k < 60 by omega) (show q + k < 60 by omega), Option.bind_some, i_succ, e1]
    · rw [H.2.2.2.2.1 x j]; dsimp only; rw [hI_pF, hI_pI, hI_pI]
      by_cases c1 : x = 194 ∧ 60 * b + q + (k + 1) ≤ j ∧ j < 60 * b + q + c
      · rw [if_pos c1, if_neg (by omega), if_pos (by omega)]
      · rw [if_neg c1]
        by_cases c2 : x = 194 ∧ j = 60 * b + (q + k)
        · rw [if_pos c2, if_pos (by omega), show 60 * a + p + (j - (60 * b + q)) = 60 * a + (p + k) by omega]
        · rw [if_neg c2, if_neg (by omega)]
    · rw [H.2.2.2.2.2 x j]; dsimp only; rw [hF_pF, hF_pF, hF_pI]
      by_cases c1 : x = 195 ∧ 60 * b + q + (k + 1) ≤ j ∧ j < 60 * b + q + c
      · rw [if_pos c1, if_neg (by omega), if_pos (by omega)]
      · rw [if_neg c1]
        by_cases c2 : x = 195 ∧ j = 60 * b + (q + k)
        · rw [if_pos c2, if_pos (by omega), show 60 * a + p + (j - (60 * b + q)) = 60 * a + (p + k) by omega]
        · rw [if_neg c2, if_neg (by omega)]
theorem mvB {a b p q c : Nat} (ha : a < 6) (hb : b < 6) (hP : p + c ≤ 60) (hq : q + c ≤ 60) (hpq : p ≤ q) : ∀ (d k n : Nat) (h : hp), WF h → k + d = c → d < n → ∃ h', fX14_move_l102 n 165 (iN a) (iN p) (iN b) (iN q) (iN c) (iN k) h = some h' ∧ HE h h' (fun x j => if x = 194 ∧ 60 * b + q ≤ j ∧ j < 60 * b + q + d then hI h 194 (60 * a + p + (j - (60 * b + q))) else hI h x j) (fun x j => if x = 195 ∧ 60 * b + q ≤ j ∧ j < 60 * b + q + d then hF h 195 (60 * a + p + (j - (60 * b + q))) else hF h x j) := by
  have ep : iN p ≤ iN q := by rw [i_le (by omega) (by omega)]; exact hpq
  intro d
  induction d with
  | zero =>
    intro k n h w hk hn
    obtain ⟨n, rfl⟩ : ∃ q, n = q + 1 := ⟨n - 1, by omega⟩
    have e : iN c ≤ iN k := by rw [i_le (by omega) (by omega)]; omega
    refine ⟨h, by rw [fX14_move_l102, if_pos e], rfl, rfl, rfl, rfl, fun x j => ?_, fun x j => ?_⟩
    · dsimp only; rw [if_neg (by omega)]
    · dsimp only; rw [if_neg (by omega)]
  | succ d ih =>
    intro k n h w hk hn
    obtain ⟨n, rfl⟩ : ∃ q, n = q + 1 := ⟨n - 1, by omega⟩
    have e : ¬ (iN c ≤ iN k) := by rw [i_le (by omega) (by omega)]; omega
    have es : iN c - 1 - iN k = iN d := by
      have : iN c - 1 = iN (c - 1) := i_sub (b := 1) (by omega)
      rw [this, i_sub (by omega), show c - 1 - k = d by omega]
    obtain ⟨h', e1, H⟩ := ih (k + 1) n (pF (pI h 194 (60 * b + (q + d)) (hI h 194 (60 * a + (p + d)))) 195 (60 * b + (q + d)) (hF h 195 (60 * a + (p + d)))) w (by omega) (by omega)
    refine ⟨h', ?_, H.1, H.2.1, H.2.2.1, H.2.2.2.1, fun x j => ?_, fun x j => ?_⟩
    · rw [fX14_move_l102, if_neg e, jn_e, if_pos ep]; dsimp only; rw [ckM w, Option.bind_some, es, i_add, i_add, item_e w ha hb (show p + d < 60 by omega) (show q + d < 60 by omega), Option.bind_some, i_succ, e1]
    · rw [H.2.2.2.2.1 x j]; dsimp only; rw [hI_pF, hI_pI, hI_pI]
      by_cases c1 : x = 194 ∧ 60 * b + q ≤ j ∧ j < 60 * b + q + d
      · rw [if_pos c1, if_neg (by omega), if_pos (by omega)]
      · rw [if_neg c1]
        by_cases c2 : x = 194 ∧ j = 60 * b + (q + d)
        · rw [if_pos c2, if_pos (by omega), show 60 * a + p + (j - (60 * b + q)) = 60 * a + (p + d) by omega]
        · rw [if_neg c2, if_neg (by omega)]
    · rw [H.2.2.2.2.2 x j]; dsimp only; rw [hF_pF, hF_pF, hF_pI]
      by_cases c1 : x = 195 ∧ 60 * b + q ≤ j ∧ j < 60 * b + q + d
      · rw [if_pos c1, if_neg (by omega), if_pos (by omega)]
      · rw [if_neg c1]
        by_cases c2 : x = 195 ∧ j = 60 * b + (q + d)
        · rw [if_pos c2, if_pos (by omega), show 60 * a + p + (j - (60 * b + q)) = 60 * a + (p + d) by omega]
        · rw [if_neg c2, if_neg (by omega)]
/-- what the reference's move makes of the heap -/
theorem mv_e {h : hp} (w : WF h) {a b p q c : Nat} (ha : a < 6) (hb : b < 6) (hP : p + c ≤ 60) (hq : q + c ≤ 60) : ∃ h', fX14_move_l102 FU 165 (iN a) (iN p) (iN b) (iN q) (iN c) 0 h = some h' ∧ HE h h' (fun x j => if x = 194 ∧ 60 * b + q ≤ j ∧ j < 60 * b + q + c then hI h 194 (60 * a + p + (j - (60 * b + q))) else hI h x j) (fun x j => if x = 195 ∧ 60 * b + q ≤ j ∧ j < 60 * b + q + c then hF h 195 (60 * a + p + (j - (60 * b + q))) else hF h x j) := by
  by_cases c1 : p ≤ q
  · exact mvB ha hb hP hq c1 c 0 FU h w (by omega) (by show c < 1000000; omega)
  · exact mvF ha hb hP hq c1 c 0 FU h w (by omega) (by show c < 1000000; omega)

/-! the tape, the page, WHY, BUDGET, what is told -/
theorem call_feed {h : hp} (w : WF h) (J : Jt h) (c : Int32) : C2 (fX13_feed 64 c) (fX14_feed 165 c) h Pt Jt := by
  have J0 := J
  obtain ⟨L, N, hm, hl, hb⟩ := J
  have hL := N.2.2.1
  have c1 : c < 1 ↔ c.toInt < 1 := by rw [Int32.lt_iff_toInt_lt, show (1 : Int32).toInt = 1 by decide]
  have c2 : c ≤ 127 ↔ c.toInt ≤ 127 := by rw [Int32.le_iff_toInt_le, show (127 : Int32).toInt = 127 by decide]
  have m1 : (1 : Int64).toInt = 1 := by decide
  have m2 : (127 : Int64).toInt = 127 := by decide
  by_cases ca : 1 ≤ c.toInt ∧ c.toInt ≤ 127
  · have x1 : ¬ c < 1 := by rw [c1]; omega
    have x2 : c ≤ 127 := by rw [c2]; omega
    by_cases cf : L.length = 160
    · have hsz : hI h 128 1 = iN 160 := by rw [N.2.1, cf]
      refine ⟨-4, h, h, ?_, ?_, FS.rf _ _, J0⟩
      · simp only [fX13_feed, x1, x2, if_true, if_false, gR64 w, R64_3 w, ckN N.1, nFull N.1 hsz, Option.bind_some, bd2_s]
      · simp (disch := (first | assumption | (simp only [WF_e1, WF_e2, WF_e3, WF_e4, WF_e5]; assumption) | omega | decide)) only [fX14_feed, isIn_e, Int32.toInt_toInt64, m1, m2, ca, and_self, if_true, bd2_s, z10, if_false, gM, Option.bind_some, hm, cf, show iN 160 = 160 from rfl]
    · obtain ⟨h1, e1, N1, F1⟩ := nAdd' c N (by omega)
      have w1 := F1.wf w
      have f165 : hI h1 165 10 = iN L.length := by rw [(F1.2.2.2.2 165 (by simp)).1]; exact hm
      have cf2 : ¬ (iN L.length = 160) := by rw [i_eq_lit (by decide) (by omega)]; exact cf
      have e165 : hI (pI h1 172 L.length c) 165 10 = iN L.length := by rw [hI_pI, if_neg (by simp)]; exact f165
      have F2 : FS Pt h (pI (pI h1 172 L.length c) 165 10 (iN (L.length + 1))) := (F1.fs.up fun x j q => by simp at q; unfold Pt; omega).tr (FS.tr (FS.pI (by simp [Pt])) (FS.pI (by simp [Pt])))
      refine ⟨iN (L.length + 1), h1, pI (pI h1 172 L.length c) 165 10 (iN (L.length + 1)), ?_, ?_, F2, L ++ [c], ?_, ?_, fun k hk => ?_, fun k hk => ?_⟩
      · have n1 := N1.2.1
        rw [List.length_append] at n1
        simp only [fX13_feed, x1, x2, if_true, if_false, gR64 w, gR64 w1, R64_3 w, R64_3 w1, ckN N.1, e1, Option.bind_some, bd2_s, z10, gIN N1.1, n1]
        rfl
      · simp (disch := (first | assumption | (simp only [WF_e1, WF_e2, WF_e3, WF_e4, WF_e5]; assumption) | omega | decide)) only [fX14_feed, isIn_e, Int32.toInt_toInt64, m1, m2, ca, and_self, if_true, bd2_s, z10, if_false, gM, pM, Option.bind_some, f165, cf2, MR7, MS172, e165, i_succ, hI_pI]
      · exact N1.fr ((FI.pI h1 172 L.length c).tr (FI.pI _ 165 10 _) (P := [172, 165]) (by simp) (by simp)) (by simp) (by simp)
      · rw [hI_pI, if_pos ⟨rfl, rfl⟩, List.length_append]; rfl
      · rw [List.length_append] at hk
        replace hk : k < L.length + 1 := hk
        rw [hI_pI, if_neg (by simp), hI_pI]
        by_cases ck : k = L.length
        · subst ck; rw [if_pos ⟨rfl, rfl⟩, gd2]
        · rw [if_neg (fun q => ck q.2), gd1 (by omega), (F1.2.2.2.2 172 (by simp)).1]; exact hl k (by omega)
      · rw [List.length_append] at hk
        replace hk : k < L.length + 1 := hk
        by_cases ck : k = L.length
        · subst ck; rw [gd2]; exact ca
        · rw [gd1 (by omega)]; exact hb k (by omega)
  · refine ⟨-2, h, h, ?_, ?_, FS.rf _ _, J0⟩
    · by_cases x1 : c < 1
      · simp only [fX13_feed, x1, if_true]
      · have x2 : ¬ c ≤ 127 := by rw [c1] at x1; rw [c2]; omega
        simp only [fX13_feed, x1, x2, if_false]
    · simp (disch := (first | assumption | (simp only [WF_e1, WF_e2, WF_e3, WF_e4, WF_e5]; assumption) | omega | decide)) only [fX14_feed, isIn_e, Int32.toInt_toInt64, m1, m2, ca, if_false, bd2_s, if_true]
theorem call_clear {h : hp} (w : WF h) (J : Jt h) : C2 (fX13_clear 64) (fX14_clear 165) h Pt Jt := by
  obtain ⟨L, N, hm, hl, hb⟩ := J
  have w1 : WF (pI h 128 1 0) := w
  refine ⟨iN L.length, pI h 128 1 0, pI (pI h 128 1 0) 165 10 0, ?_, ?_, FS.tr (FS.pI (by simp [Pt])) (FS.pI (by simp [Pt])), Jt_nil (h := pI (pI h 128 1 0) 165 10 0) w ?_ ?_⟩
  · simp only [fX13_clear, gR64 w, R64_3 w, gIN N.1, ckN N.1, nEmpty N.1, Option.bind_some, N.2.1]
  · have e : hI (pI h 128 1 0) 165 10 = iN L.length := by rw [hI_pI, if_neg (by simp)]; exact hm
    simp (disch := (first | assumption | (simp only [WF_e1, WF_e2, WF_e3, WF_e4, WF_e5]; assumption) | omega | decide)) only [fX14_clear, gM, pM, Option.bind_some, e]
  · rw [hI_pI, if_neg (by simp), hI_pI, if_pos ⟨rfl, rfl⟩]
  · rw [hI_pI, if_pos ⟨rfl, rfl⟩]
theorem gR65 {h : hp} (w : WF h) (k : Nat) : gfR h 65 8 k = some (hR h 65 k) := by unfold gfR; rw [T65 w]; rfl
theorem gI65 {h : hp} (w : WF h) (k : Nat) : gfI h 65 8 k = some (hI h 65 k) := by unfold gfI; rw [T65 w]; rfl
theorem at_both {h : hp} {a b cap : Nat} {L : List Int32} (N : NL h a b cap L) (i : Int32) : fX5_at a i h = some (if 0 ≤ i.toInt ∧ i.toInt < L.length then L.getD i.toNatClampNeg 0 else -1, h) := by
  rw [nAt N.1 N.2.1 N.2.2.1]
  by_cases ci : 0 ≤ i.toInt ∧ i.toInt < L.length
  · rw [if_pos ci, if_pos ci, N.2.2.2 _ (by unfold Int32.toNatClampNeg; omega)]
  · rw [if_neg ci, if_neg ci]
theorem call_page {h : hp} (w : WF h) (J : Js h) (i : Int32) : C2 (fX13_page 64 i) (fX14_page 165 i) h Ps Js := by
  have J0 := J
  obtain ⟨L, N, hm, hl⟩ := J
  have hL := N.2.2.1
  have l1 := last_e (n := L.length) (by omega)
  refine ⟨if 0 ≤ i.toInt ∧ i.toInt < L.length then L.getD i.toNatClampNeg 0 else -1, h, h, ?_, ?_, FS.rf _ _, J0⟩
  · simp only [fX13_page, gR64 w, R64_0 w, gR65 w, R65_2 w, ckN N.1, at_both N i, Option.bind_some, bd2_s]
  · simp (disch := (first | assumption | (simp only [WF_e1, WF_e2, WF_e3, WF_e4, WF_e5]; assumption) | omega | decide)) only [fX14_page, gM, hm, Option.bind_some, isIn_e, Int32.toInt_toInt64, show (0 : Int64).toInt = 0 by decide, l1, bd2_s]
    by_cases ci : 0 ≤ i.toInt ∧ i.toInt < L.length
    · obtain ⟨j, hj, rfl⟩ := i_of2 ci
      have ci2 : 0 ≤ (iN j).toInt ∧ (iN j).toInt ≤ (L.length : Int) - 1 := by omega
      simp (disch := (first | assumption | (simp only [WF_e1, WF_e2, WF_e3, WF_e4, WF_e5]; assumption) | omega | decide)) only [ci, ci2, and_self, if_true, z10, if_false, MR19, Option.bind_some, ML175, hl j hj, i_clamp]
    · have ci2 : ¬ (0 ≤ i.toInt ∧ i.toInt ≤ (L.length : Int) - 1) := by omega
      simp only [ci, ci2, if_false, if_true]
theorem call_budget {h : hp} (w : WF h) (J : Jb h) (n : Int32) : C2 (fX13_budget 64 n) (fX14_budget 165 n) h Pb Jb := by
  have J0 := J
  obtain ⟨m, hm, hc, hr⟩ := J
  have c1 : n < 0 ↔ n.toInt < 0 := by rw [Int32.lt_iff_toInt_lt, show (0 : Int32).toInt = 0 by decide]
  have c2 : n ≤ 400 ↔ n.toInt ≤ 400 := by rw [Int32.le_iff_toInt_le, show (400 : Int32).toInt = 400 by decide]
  by_cases ca : 0 ≤ n.toInt ∧ n.toInt ≤ 400
  · obtain ⟨j, hj, rfl⟩ := i_of2 (v := n) (n := 401) (by omega)
    have x1 : ¬ iN j < 0 := by rw [c1]; omega
    have x2 : iN j ≤ 400 := by rw [c2]; omega
    have w1 : WF (pI h 65 3 (iN j)) := w
    have e : hI (pI h 65 3 (iN j)) 165 24 = iN m := by rw [hI_pI, if_neg (by simp)]; exact hr
    have p65 : pfI h 65 8 3 (iN j) = some (pI h 65 3 (iN j)) := by unfold pfI; rw [T65 w]; rfl
    refine ⟨iN m, pI h 65 3 (iN j), pI (pI h 65 3 (iN j)) 165 24 (iN j), ?_, ?_, FS.tr (FS.pI (by simp [Pb])) (FS.pI (by simp [Pb])), j, by omega, ?_, ?_⟩
    · simp only [fX13_budget, x1, x2, if_true, if_false, gR64 w, R64_0 w, gI65 w, p65, hc, Option.bind_some]
    · simp (disch := (first | assumption | (simp only [WF_e1, WF_e2, WF_e3, WF_e4, WF_e5]; assumption) | omega | decide)) only [fX14_budget, isIn_e, Int32.toInt_toInt64, show (0 : Int64).toInt = 0 by decide, show (400 : Int64).toInt = 400 by decide, ca, and_self, if_true, bd2_s, z10, if_false, gM, pM, e, Option.bind_some]
    · rw [hI_pI, if_neg (by simp), hI_pI, if_pos ⟨rfl, rfl⟩]
    · rw [hI_pI, if_pos ⟨rfl, rfl⟩]
  · refine ⟨-2, h, h, ?_, ?_, FS.rf _ _, J0⟩
    · by_cases x1 : n < 0
      · simp only [fX13_budget, x1, if_true]
      · have x2 : ¬ n ≤ 400 := by rw [c1] at x1; rw [c2]; omega
        simp only [fX13_budget, x1, x2, if_false]
    · simp (disch := (first | assumption | (simp only [WF_e1, WF_e2, WF_e3, WF_e4, WF_e5]; assumption) | omega | decide)) only [fX14_budget, isIn_e, Int32.toInt_toInt64, show (0 : Int64).toInt = 0 by decide, show (400 : Int64).toInt = 400 by decide, ca, if_false, bd2_s, if_true]
theorem dv3 {n : Nat} (hn : n ≤ 54) : dvI (iN (3 * n)) 3 = some (iN n) := by
  have e := dv_e (a := 3 * n) (b := 3) (by decide) (by omega) (by decide)
  rw [Nat.mul_div_cancel_left _ (by decide)] at e
  exact e
theorem why_c {h : hp} (w : WF h) {n j q : Nat} (hn : n ≤ 54) (hc : hI h 86 1 = iN (3 * n)) (hj : j < n) (hq : q < 3) : fX13_why 64 (iN j) (iN q) h = some (hI h 87 (3 * j + q), h) := by
  have hx : (iN j * 3) + iN q = iN (3 * j + q) := by
    have : iN j * 3 = iN (j * 3) := i_mul j 3
    rw [this, i_add, Nat.mul_comm]
  have a1 : fX13_among (iN j) (iN n) h = some (1, h) := by rw [am_e (iN j) n (by omega) h, if_pos (by rw [i_toInt (by omega)]; omega)]
  have a2 : fX13_among (iN q) 3 h = some (1, h) := by
    have e := am_e (iN q) 3 (by decide) h
    rw [if_pos (by rw [i_toInt (by omega)]; omega)] at e
    exact e
  have a3 := nAtK (NO_links w) hc (by omega) (show 3 * j + q < 3 * n by omega)
  unfold fX13_why
  rw [gR64 w, Option.bind_some, R64_4 w, gIN (NO_links w), Option.bind_some, hc, dv3 hn, Option.bind_some, a1, bd2_s, if_neg z10, a2, bd2_s, if_neg z10]
  rw [gR64 w, Option.bind_some, R64_4 w, ckN (NO_links w), Option.bind_some, hx, a3, bd2_s]
theorem why_m {h : hp} (w : WF h) {n j q : Nat} (hn : n ≤ 54) (hr : hI h 165 47 = iN n) (hj : j < n) (hq : q < 3) : fX14_why 165 (iN j) (iN q) h = some (if q = 0 then hI h 189 j else if q = 1 then hI h 190 j else hI h 191 j, h) := by
  have l1 := last_e (n := n) (by omega)
  have a1 : fX14_isIn (iN j).toInt64 0 (iN n - 1).toInt64 h = some (1, h) := by
    rw [isIn_e, Int32.toInt_toInt64, Int32.toInt_toInt64, l1, i_toInt (by omega), if_pos]
    exact ⟨by rw [show (0 : Int64).toInt = 0 by decide]; omega, by omega⟩
  have a2 : fX14_isIn (iN q).toInt64 0 2 h = some (1, h) := by
    rw [isIn_e, Int32.toInt_toInt64, i_toInt (by omega), if_pos]
    exact ⟨by rw [show (0 : Int64).toInt = 0 by decide]; omega, by rw [show (2 : Int64).toInt = 2 by decide]; omega⟩
  unfold fX14_why
  rw [gM w, Option.bind_some, hr, a1, bd2_s, if_neg z10, a2, bd2_s, if_neg z10]
  have hqs : q = 0 ∨ q = 1 ∨ q = 2 := by omega
  rcases hqs with rfl | rfl | rfl
  · rw [if_pos (show iN 0 = 0 from rfl), MR44 w, Option.bind_some, ML189 w (by omega), Option.bind_some, if_pos rfl]
  · rw [if_neg (by decide), if_pos (show iN 1 = 1 from rfl), MR45 w, Option.bind_some, ML190 w (by omega), Option.bind_some, if_neg (by decide), if_pos rfl]
  · rw [if_neg (by decide), if_neg (by decide), MR46 w, Option.bind_some, ML191 w (by omega), Option.bind_some, if_neg (by decide), if_neg (by decide)]
theorem why_n {h : hp} (w : WF h) {n : Nat} (hn : n ≤ 54) (hc : hI h 86 1 = iN (3 * n)) (hr : hI h 165 47 = iN n) {i p : Int32} (hx : ¬ ((0 ≤ i.toInt ∧ i.toInt < n) ∧ 0 ≤ p.toInt ∧ p.toInt < 3)) : fX13_why 64 i p h = some (-1, h) ∧ fX14_why 165 i p h = some (-1, h) := by
  have l1 := last_e (n := n) (by omega)
  have a1 := am_e i n (by omega) h
  have a2 : fX13_among p 3 h = some (if 0 ≤ p.toInt ∧ p.toInt < 3 then 1 else 0, h) := am_e p 3 (by decide) h
  have b1 : fX14_isIn i.toInt64 0 (iN n - 1).toInt64 h = some (if 0 ≤ i.toInt ∧ i.toInt < n then 1 else 0, h) := by
    rw [isIn_e, Int32.toInt_toInt64, Int32.toInt_toInt64, l1, show (0 : Int64).toInt = 0 by decide]
    by_cases c : 0 ≤ i.toInt ∧ i.toInt < n
    · rw [if_pos c, if_pos (by omega)]
    · rw [if_neg c, if_neg (by omega)]
  have b2 : fX14_isIn p.toInt64 0 2 h = some (if 0 ≤ p.toInt ∧ p.toInt < 3 then 1 else 0, h) := by
    rw [isIn_e, Int32.toInt_toInt64, show (0 : Int64).toInt = 0 by decide, show (2 : Int64).toInt = 2 by decide]
    by_cases c : 0 ≤ p.toInt ∧ p.toInt < 3
    · rw [if_pos c, if_pos (by omega)]
    · rw [if_neg c, if_neg (by omega)]
  unfold fX13_why fX14_why
  rw [gR64 w, Option.bind_some, R64_4 w, gIN (NO_links w), Option.bind_some, hc, dv3 hn, Option.bind_some, a1, bd2_s, gM w, Option.bind_some, hr, b1, bd2_s]
  by_cases c : 0 ≤ i.toInt ∧ i.toInt < n
  · have c2 : ¬ (0 ≤ p.toInt ∧ p.toInt < 3) := fun q => hx ⟨c, q⟩
    rw [if_pos c, if_neg z10, if_neg z10, a2, b2, bd2_s, bd2_s, if_neg c2, if_pos rfl, if_pos rfl]
    exact ⟨rfl, rfl⟩
  · rw [if_neg c, if_pos rfl, if_pos rfl]
    exact ⟨rfl, rfl⟩
theorem call_why {h : hp} (w : WF h) (J : Jw h) (i p : Int32) : C2 (fX13_why 64 i p) (fX14_why 165 i p) h Pw Jw := by
  have J0 := J
  obtain ⟨n, hn, hc, hr, hl⟩ := J
  by_cases cx : (0 ≤ i.toInt ∧ i.toInt < n) ∧ 0 ≤ p.toInt ∧ p.toInt < (3 : Nat)
  · obtain ⟨ci, cp⟩ := cx
    obtain ⟨j, hj, rfl⟩ := i_of2 ci
    obtain ⟨q, hq, rfl⟩ := i_of2 cp
    obtain ⟨v1, v2, v3⟩ := hl j hj
    have e2 := why_m w hn hr hj hq
    refine ⟨_, h, h, why_c w hn hc hj hq, ?_, FS.rf _ _, J0⟩
    rw [e2]
    have hqs : q = 0 ∨ q = 1 ∨ q = 2 := by omega
    rcases hqs with rfl | rfl | rfl
    · rw [if_pos rfl, Nat.add_zero, v1]
    · rw [if_neg (by decide), if_pos rfl, v2]
    · rw [if_neg (by decide), if_neg (by decide), v3]
  · obtain ⟨e1, e2⟩ := why_n w hn hc hr (i := i) (p := p) cx
    exact ⟨-1, h, h, e1, e2, FS.rf _ _, J0⟩
theorem sm_congr {f g : Nat → Int32} {m : Nat} (e : ∀ k, k < m → f k = g k) : ∀ (d k : Nat) (acc : Int32), k + d = m → smF f d k acc = smF g d k acc := by
  intro d
  induction d with
  | zero => intro k acc _; rfl
  | succ d ih => intro k acc hk; simp only [smF]; rw [e k (by omega), ih (k + 1) _ (by omega)]
theorem ct_congr {f g : Nat → Int32} {v : Int32} {m : Nat} (e : ∀ k, k < m → f k = g k) : ∀ (d k : Nat) (acc : Int32), k + d = m → ctF f v d k acc = ctF g v d k acc := by
  intro d
  induction d with
  | zero => intro k acc _; rfl
  | succ d ih => intro k acc hk; simp only [ctF]; rw [e k (by omega), ih (k + 1) _ (by omega)]
theorem mOn_l {h : hp} (w : WF h) {m : Nat} (hs : hI h 165 21 = iN m) (hm : m ≤ 400) (isS : Bool) : ∀ (d k n : Nat) (acc : Int32), k + d = m → d < n → fX14_onPage_l4 n 165 (if isS then 1 else 0) acc (iN k) h = some (if isS then smF (hI h 175) d k acc else ctF (hI h 175) 10 d k acc, h) := by
  intro d
  induction d with
  | zero =>
    intro k n acc hk hn
    obtain ⟨n, rfl⟩ : ∃ q, n = q + 1 := ⟨n - 1, by omega⟩
    have e : iN m ≤ iN k := by rw [i_le (by omega) (by omega)]; omega
    simp only [fX14_onPage_l4, gM w, Option.bind_some, hs, e, if_true]
    cases isS <;> rfl
  | succ d ih =>
    intro k n acc hk hn
    obtain ⟨n, rfl⟩ : ∃ q, n = q + 1 := ⟨n - 1, by omega⟩
    have e : ¬ (iN m ≤ iN k) := by rw [i_le (by omega) (by omega)]; omega
    cases isS with
    | true =>
      have ih' := fun acc => ih (k + 1) n acc (by omega) (by omega)
      simp only [if_true] at ih'
      simp (disch := (first | assumption | (simp only [WF_e1, WF_e2, WF_e3, WF_e4, WF_e5]; assumption) | omega | decide)) only [fX14_onPage_l4, gM, Option.bind_some, hs, e, if_true, if_false, z10, jn_e, MR19, ML175, i_succ, smF, ih']
    | false =>
      have ih' := fun acc => ih (k + 1) n acc (by omega) (by omega)
      simp only [Bool.false_eq_true, if_false] at ih'
      by_cases cv : hI h 175 k = 10
      · simp (disch := (first | assumption | (simp only [WF_e1, WF_e2, WF_e3, WF_e4, WF_e5]; assumption) | omega | decide)) only [fX14_onPage_l4, gM, Option.bind_some, hs, e, if_true, if_false, Bool.false_eq_true, jn_e, MR19, ML175, cv, i_succ, ctF, ih']
      · simp (disch := (first | assumption | (simp only [WF_e1, WF_e2, WF_e3, WF_e4, WF_e5]; assumption) | omega | decide)) only [fX14_onPage_l4, gM, Option.bind_some, hs, e, if_true, if_false, Bool.false_eq_true, jn_e, MR19, ML175, cv, i_succ, ctF, Int32.add_zero, ih']

/-! what is told -/
/-- which places hold a template -/
def JT0 (h : hp) : Prop := ∀ k, k < 6 → (hR h 67 k = 0 ↔ hI h 174 k < 0)
def orF (f : Nat → Prop) [DecidablePred f] : Nat → Nat → Int32 → Int32
  | 0, _, acc => acc
  | d + 1, k, acc => orF f d (k + 1) (if f k then acc else acc ||| ((1 : Int32) <<< (iN k &&& 31)))
theorem hold_l {h : hp} (w : WF h) : ∀ (d k n : Nat) (acc : Int32), k + d = 6 → d < n → fX9_holding_l4 n 65 acc (iN k) h = some (orF (fun k => hR h 67 k = 0) d k acc, h) := by
  intro d
  induction d with
  | zero =>
    intro k n acc hk hn
    obtain ⟨n, rfl⟩ : ∃ q, n = q + 1 := ⟨n - 1, by omega⟩
    have e : 6 ≤ iN k := by rw [i_lit_le (by decide) (by omega)]; show 6 ≤ k; omega
    simp only [fX9_holding_l4, e, if_true, orF]
  | succ d ih =>
    intro k n acc hk hn
    obtain ⟨n, rfl⟩ : ∃ q, n = q + 1 := ⟨n - 1, by omega⟩
    have e : ¬ (6 ≤ iN k) := by rw [i_lit_le (by decide) (by omega)]; show ¬ (6 ≤ k); omega
    have r1 : alR 5 h 67 (iN k) = some (hR h 67 k) := alR_e (T67 w) (by omega) (by decide)
    simp only [fX9_holding_l4, e, if_false, gR65 w, R65_1 w, Option.bind_some, r1, i_succ, orF]
    rw [ih (k + 1) n _ (by omega) (by omega), ih (k + 1) n _ (by omega) (by omega)]
    by_cases c : hR h 67 k = 0
    · rw [if_pos c, if_pos c]
    · rw [if_neg c, if_neg c]
theorem with_l {h : hp} (w : WF h) : ∀ (d k n : Nat) (acc : Int32), k + d = 6 → d < n → fX14_withText_l4 n 165 acc (iN k) h = some (orF (fun k => hI h 174 k < 0) d k acc, h) := by
  intro d
  induction d with
  | zero =>
    intro k n acc hk hn
    obtain ⟨n, rfl⟩ : ∃ q, n = q + 1 := ⟨n - 1, by omega⟩
    have e : 6 ≤ iN k := by rw [i_lit_le (by decide) (by omega)]; show 6 ≤ k; omega
    simp only [fX14_withText_l4, e, if_true, orF]
  | succ d ih =>
    intro k n acc hk hn
    obtain ⟨n, rfl⟩ : ∃ q, n = q + 1 := ⟨n - 1, by omega⟩
    have e : ¬ (6 ≤ iN k) := by rw [i_lit_le (by decide) (by omega)]; show ¬ (6 ≤ k); omega
    have hk6 : k < 6 := by omega
    simp only [fX14_withText_l4, e, if_false, MR9 w, ML174 w hk6, Option.bind_some, i_succ, orF, jn_e]
    rw [ih (k + 1) n _ (by omega) (by omega), ih (k + 1) n _ (by omega) (by omega)]
    by_cases c : hI h 174 k < 0
    · rw [if_pos c, if_pos c, Int32.or_zero]
    · rw [if_neg c, if_neg c]
theorem or_congr {f g : Nat → Prop} [DecidablePred f] [DecidablePred g] {m : Nat} (e : ∀ k, k < m → (f k ↔ g k)) : ∀ (d k : Nat) (acc : Int32), k + d = m → orF f d k acc = orF g d k acc := by
  intro d
  induction d with
  | zero => intro k acc _; rfl
  | succ d ih =>
    intro k acc hk
    simp only [orF]
    by_cases c : f k
    · rw [if_pos c, if_pos ((e k (by omega)).mp c), ih (k + 1) _ (by omega)]
    · rw [if_neg c, if_neg (fun q => c ((e k (by omega)).mpr q)), ih (k + 1) _ (by omega)]
/-- both tell the same of what holds a template -/
theorem hold_e {h : hp} (w : WF h) (J : JT0 h) : ∃ a, fX9_holding 65 h = some (a, h) ∧ fX14_withText 165 h = some (a, h) := by
  refine ⟨orF (fun k => hR h 67 k = 0) 6 0 0, ?_, ?_⟩
  · have e : fX9_holding_l4 FU 65 0 0 h = _ := hold_l w 6 0 FU 0 (by omega) (by show 6 < 1000000; omega)
    rw [fX9_holding, e, bd2_s]
  · have e : fX14_withText_l4 FU 165 0 0 h = _ := with_l w 6 0 FU 0 (by omega) (by show 6 < 1000000; omega)
    rw [fX14_withText, e, bd2_s, or_congr J 6 0 0 rfl]
theorem call_told {h : hp} (w : WF h) (js : Js h) (jw : Jw h) (jb : Jb h) (jt : Jt h) (jp : Jp h) (j0 : JT0 h) (k : Int32) : ∃ a, fX13_told 64 k h = some (a, h) ∧ fX14_told 165 k h = some (a, h) := by
  obtain ⟨L, N, hm, hl⟩ := js
  obtain ⟨Lt, Nt, hmt, hlt⟩ := jt
  obtain ⟨n, hn, hc, hr, hlw⟩ := jw
  obtain ⟨b, hb, hcb, hrb⟩ := jb
  unfold fX13_told fX14_told
  by_cases c0 : k = 0
  · rw [if_pos c0, if_pos c0, gR64 w, Option.bind_some, R64_0 w, gR65 w, Option.bind_some, R65_2 w, gIN N.1, Option.bind_some, gM w, Option.bind_some, hm, N.2.1]
    exact ⟨_, rfl, rfl⟩
  rw [if_neg c0, if_neg c0]
  by_cases c1 : k = 1
  · rw [if_pos c1, if_pos c1, gR64 w, Option.bind_some, R64_4 w, gIN (NO_links w), Option.bind_some, hc, dv3 hn, Option.bind_some, gM w, Option.bind_some, hr]
    exact ⟨_, rfl, rfl⟩
  rw [if_neg c1, if_neg c1]
  by_cases c2 : k = 2
  · rw [if_pos c2, if_pos c2, gR64 w, Option.bind_some, R64_0 w, gI65 w, Option.bind_some, gM w, Option.bind_some, hcb, hrb]
    exact ⟨_, rfl, rfl⟩
  rw [if_neg c2, if_neg c2]
  by_cases c3 : k = 3
  · obtain ⟨a, e1, e2⟩ := hold_e w j0
    rw [if_pos c3, if_pos c3, gR64 w, Option.bind_some, R64_0 w, ck65 w, Option.bind_some, e1, bd2_s, ckM w, Option.bind_some, e2, bd2_s]
    exact ⟨_, rfl, rfl⟩
  rw [if_neg c3, if_neg c3]
  by_cases c4 : k = 4
  · rw [if_pos c4, if_pos c4, gR64 w, Option.bind_some, R64_3 w, gIN Nt.1, Option.bind_some, gM w, Option.bind_some, hmt, Nt.2.1]
    exact ⟨_, rfl, rfl⟩
  rw [if_neg c4, if_neg c4]
  by_cases c5 : k = 5
  · rw [if_pos c5, if_pos c5, gI64 w, Option.bind_some, gM w, Option.bind_some, jp]
    exact ⟨_, rfl, rfl⟩
  rw [if_neg c5, if_neg c5]
  have hL := N.2.2.1
  have hmm : ∀ i, i < L.length → hI h 69 i = hI h 175 i := fun i hi => by rw [hl i hi]; exact N.2.2.2 i hi
  by_cases c6 : k = 6
  · have e : fX14_onPage_l4 FU 165 1 0 0 h = _ := mOn_l w hm hL true L.length 0 FU 0 (by omega) (by show L.length < 1000000; omega)
    rw [if_pos c6, if_pos c6, gR64 w, Option.bind_some, R64_0 w, gR65 w, Option.bind_some, R65_2 w, ckN N.1, Option.bind_some, nSum N.1 N.2.1 hL, bd2_s, ckM w, Option.bind_some, fX14_onPage, e, bd2_s, bd2_s]
    exact ⟨_, rfl, by rw [if_pos rfl, sm_congr hmm L.length 0 0 (by omega)]⟩
  rw [if_neg c6, if_neg c6]
  by_cases c7 : k = 7
  · have e : fX14_onPage_l4 FU 165 0 0 0 h = _ := mOn_l w hm hL false L.length 0 FU 0 (by omega) (by show L.length < 1000000; omega)
    rw [if_pos c7, if_pos c7, gR64 w, Option.bind_some, R64_0 w, gR65 w, Option.bind_some, R65_2 w, ckN N.1, Option.bind_some, nCount N.1 N.2.1 hL, bd2_s, ckM w, Option.bind_some, fX14_onPage, e, bd2_s, bd2_s]
    exact ⟨_, rfl, by rw [if_neg (by decide), ct_congr hmm L.length 0 0 (by omega)]⟩
  rw [if_neg c7, if_neg c7]
  exact ⟨_, rfl, rfl⟩

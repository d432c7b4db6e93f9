/-! the reference's recognizer: texts, expressions, conditions -/
theorem isT_m {L : List Int32} {h : hp} {S off : Nat} (X : MX h S off L) (p : Nat) : isT (hereL L p) = true ↔ ¬ hereL L p < 0 ∧ hereL L p ≠ 39 ∧ hereL L p ≠ 123 ∧ hereL L p ≠ 125 := by
  have k : hereL L p < 0 ↔ (hereL L p).toInt < 0 := by rw [Int32.lt_iff_toInt_lt, show (0 : Int32).toInt = 0 by decide]
  unfold isT
  rw [decide_eq_true_iff, k]
  have : (hereL L p).toInt ≠ 0 := by
    unfold hereL
    by_cases q : p < L.length
    · rw [if_pos q]; have := X.2.2.2.2.2.2.2.1 p q; omega
    · rw [if_neg q]; decide
  constructor
  · rintro ⟨a, b⟩; exact ⟨by omega, b⟩
  · rintro ⟨a, b⟩; exact ⟨by omega, b⟩
theorem text_l {S off c : Nat} {L : List Int32} {q : Nat} : ∀ (d p i n : Nat) (h : hp), MX h S off L → MP h p c → p ≤ L.length → p = q + i → i + d = 16 → d < n → ∃ h', fX14_isTextRead_l15 n 165 (iN q) h = some h' ∧ MS h h' ∧ MP h' (p + runT L d p) c ∧ p + runT L d p ≤ L.length := by
  intro d
  induction d with
  | zero =>
    intro p i n h X m hp' hq hi hn
    have w := X.1
    have hl := X.2.2.2.2.2.2.2.2
    obtain ⟨n, rfl⟩ : ∃ q, n = q + 1 := ⟨n - 1, by omega⟩
    rw [fX14_isTextRead_l15, gM w, Option.bind_some, m.1, i_sub (by omega), if_pos (by rw [i_lit_le (by decide) (by omega)]; show 16 ≤ p - q; omega)]
    exact ⟨h, rfl, FS.rf _ _, m, hp'⟩
  | succ d ih =>
    intro p i n h X m hp' hq hi hn
    have w := X.1
    have hl := X.2.2.2.2.2.2.2.2
    obtain ⟨n, rfl⟩ : ∃ q, n = q + 1 := ⟨n - 1, by omega⟩
    have e1 : runT L (d + 1) p = if isT (hereL L p) = true then runT L d (p + 1) + 1 else 0 := rfl
    have hh := here_m X m (by omega)
    rw [fX14_isTextRead_l15, gM w, Option.bind_some, m.1, i_sub (by omega), if_neg (by rw [i_lit_le (by decide) (by omega)]; show ¬ 16 ≤ p - q; omega), ckM w, Option.bind_some, hh, bd2_s, e1]
    have ex : ¬ isT (hereL L p) = true → ∃ h', some h = some h' ∧ MS h h' ∧ MP h' (p + if isT (hereL L p) = true then runT L d (p + 1) + 1 else 0) c ∧ (p + if isT (hereL L p) = true then runT L d (p + 1) + 1 else 0) ≤ L.length := fun z => by
      rw [if_neg z]; exact ⟨h, rfl, FS.rf _ _, m, hp'⟩
    have it := isT_m X p
    by_cases c1 : hereL L p < 0
    · rw [if_pos c1]; exact ex fun z => (it.mp z).1 c1
    rw [if_neg c1, ckM w, Option.bind_some, hh, bd2_s]
    by_cases c2 : hereL L p = 39
    · rw [if_pos c2]; exact ex fun z => (it.mp z).2.1 c2
    rw [if_neg c2, ckM w, Option.bind_some, hh, bd2_s]
    by_cases c3 : hereL L p = 123
    · rw [if_pos c3]; exact ex fun z => (it.mp z).2.2.1 c3
    rw [if_neg c3, ckM w, Option.bind_some, hh, bd2_s]
    by_cases c4 : hereL L p = 125
    · rw [if_pos c4]; exact ex fun z => (it.mp z).2.2.2 c4
    have z := it.mpr ⟨c1, c2, c3, c4⟩
    have hlt := here_in (by decide) z
    rw [if_neg c4, gM w, Option.bind_some, pM w, Option.bind_some, m.1, i_succ, if_pos z]
    obtain ⟨h', a1, a2, a3, a4⟩ := ih (p + 1) (i + 1) n _ (X.fs (MS.at _)) (m.at (p + 1)) hlt (by omega) (by omega) (by omega)
    exact ⟨h', a1, (MS.at _).tr a2, by rw [show p + (runT L d (p + 1) + 1) = p + 1 + runT L d (p + 1) by omega]; exact a3, by omega⟩
theorem text_m {h : hp} {S off p c : Nat} {L : List Int32} (X : MX h S off L) (m : MP h p c) (hp' : p < L.length) : MB L h p (pSign L 39 (p + 1 + runT L 16 (p + 1))) (fun _ => c) (fX14_isTextRead 165 h) := by
  have w := X.1
  have X1 := X.fs (MS.at (iN (p + 1)))
  have m1 := m.at (p + 1)
  obtain ⟨h', a1, a2, a3, a4⟩ := text_l (S := S) (off := off) (c := c) (q := p + 1) 16 (p + 1) 0 FU _ X1 m1 hp' rfl rfl (by show 16 < 1000000; omega)
  have X2 := X1.fs a2
  unfold fX14_isTextRead
  rw [gM w, Option.bind_some, pM w, Option.bind_some, m.1, i_succ, gM X1.1, Option.bind_some, m1.1, a1, Option.bind_some, ckM X2.1, Option.bind_some]
  exact ((sign_m X2 a3 a4 (by decide)).up ((MS.at _).tr a2) (by omega)).zc
def kE (f : Nat) (h82j : hp) : Option (Int32 × hp) :=
  bd2 (fX14_isExpressionRead_l82 f 165 h82j) fun t7 h6 => if t7 = 0 then some (0, h6) else if t7 = 1 then some (1, h6) else none
def pTail (L : List Int32) (e : EX) (p1 : Nat) : PR EX := if hereL L p1 = 124 then bnd (pFils L 161 (p1 + 1)) fun fs p2 => .inl ((e.1, e.2.1, e.2.2.1, fs), p2) else .inl (e, p1)
theorem tail_m {h : hp} {S off p c : Nat} {L : List Int32} (X : MX h S off L) (m : MP h p c) (hp' : p ≤ L.length) (e : EX) : MB L h p (pTail L e p) (fun _ => c) (kE FU h) := by
  have hl := X.2.2.2.2.2.2.2.2
  have key := fils_l 161 p FU h X m hp' (by omega) (by show _ < 1000000; omega)
  unfold pTail kE
  by_cases q : hereL L p = 124
  · rw [if_pos q] at key ⊢
    exact MB.mp (g := fun fs => (e.1, e.2.1, e.2.2.1, fs)) key
  · rw [if_neg q] at key ⊢
    rcases key with ⟨a, p', h', b1, b2, b3, b4, b5, b6⟩ | ⟨f, h', b1, b2, b3, b4, b5⟩
    · have e2 : p = p' := congrArg Prod.snd (Sum.inl.inj b1)
      subst e2
      exact .inl ⟨e, p, h', rfl, b2, b3, b4, b5, b6⟩
    · cases b1
theorem expr_m {h : hp} {S off p c : Nat} {L : List Int32} (X : MX h S off L) (m : MP h p c) (hp' : p ≤ L.length) : MB L h p (pExpr L p) (fun _ => c) (fX14_isExpressionRead 165 h) := by
  have w := X.1
  have hl := X.2.2.2.2.2.2.2.2
  have hb := mHB X p
  have step : ∀ (e : EX), p < L.length → MB L h p (pTail L e (p + 1)) (fun _ => c) ((gfI h 165 13 14).bind fun v11 => (pfI h 165 13 14 (v11 + 1)).bind fun h13 => kE FU h13) := fun e hlt => by
    rw [gM w, Option.bind_some, pM w, Option.bind_some, m.1, i_succ]
    exact (tail_m (X.fs (MS.at _)) (m.at (p + 1)) hlt e).up (MS.at _) (Nat.le_succ p)
  have pe : pExpr L p = bnd (pAtom L p) fun e p1 => pTail L e p1 := rfl
  have st : fX14_isExpressionRead 165 h = if hereL L p = 39 then (bd2 (fX14_isTextRead 165 h) fun v24 h25 => if v24 = 0 then some (0, h25) else kE FU h25) else (if (97 : Int) ≤ (hereL L p).toInt ∧ (hereL L p).toInt ≤ 104 then ((gfI h 165 13 14).bind fun v11 => (pfI h 165 13 14 (v11 + 1)).bind fun h13 => kE FU h13) else (if hereL L p = 35 then ((gfI h 165 13 14).bind fun v11 => (pfI h 165 13 14 (v11 + 1)).bind fun h13 => kE FU h13) else (bd2 (fX14_isFigures 165 (pI h 165 14 (iN (p + if hereL L p = 45 then 1 else 0)))) fun v20 h21 => if v20 = 0 then some (0, h21) else kE FU h21))) := by
    unfold fX14_isExpressionRead
    rw [ckM w, Option.bind_some, here_m X m (by omega), bd2_s]
    simp only [jn_e]
    by_cases c1 : hereL L p = 39
    · rw [if_pos c1, if_pos c1, ckM w, Option.bind_some]; rfl
    rw [if_neg c1, if_neg c1, isIn_c _ 97 104 (by decide) (by decide) 97 104 (by decide) (by decide), bd2_s, ite10]
    by_cases c2 : (97 : Int) ≤ (hereL L p).toInt ∧ (hereL L p).toInt ≤ 104
    · rw [if_pos (show ((97 : Nat) : Int) ≤ (hereL L p).toInt ∧ (hereL L p).toInt ≤ ((104 : Nat) : Int) from c2), if_pos c2]; rfl
    rw [if_neg (show ¬ (((97 : Nat) : Int) ≤ (hereL L p).toInt ∧ (hereL L p).toInt ≤ ((104 : Nat) : Int)) from c2), if_neg c2]
    by_cases c3 : hereL L p = 35
    · rw [if_pos c3, if_pos c3]; rfl
    rw [if_neg c3, if_neg c3, gM w, Option.bind_some, m.1]
    by_cases c4 : hereL L p = 45
    · rw [if_pos c4, if_pos c4, pM w, Option.bind_some, i_succ, ckM (X.fs (MS.at _)).1, Option.bind_some]; rfl
    · rw [if_neg c4, if_neg c4, pM w, Option.bind_some, show iN p + 0 = iN (p + 0) from i_add p 0, ckM (X.fs (MS.at _)).1, Option.bind_some]; rfl
  rw [pe, st]
  by_cases cv : 97 ≤ (hereL L p).toInt ∧ (hereL L p).toInt < 105
  · have n39 : ¬ hereL L p = 39 := fun q => by rw [q, show (39 : Int32).toInt = 39 by decide] at cv; omega
    have hlt : p < L.length := by
      have nz : hereL L p ≠ -1 := fun e => by rw [e, show (-1 : Int32).toInt = -1 by decide] at cv; omega
      exact (here_lt (L := L) (p := p) rfl nz).1
    rw [if_neg n39, if_pos (by omega), show pAtom L p = .inl ((1, (hereL L p).toInt.toNat - 97, vN, []), p + 1) by unfold pAtom; rw [if_pos cv], bnd_l]
    exact step _ hlt
  · by_cases c39 : hereL L p = 39
    · obtain ⟨hlt, _⟩ := here_lt c39 (by decide)
      have n35 : ¬ hereL L p = 35 := fun q => by rw [c39] at q; exact absurd q (by decide)
      rw [if_pos c39, show pAtom L p = bnd (pSign L 39 (p + 1 + runT L 16 (p + 1))) fun _ p1 => .inl ((0, 0, (3, 0, 0, runT L 16 (p + 1), fun i => L.getD (p + 1 + i) 0), []), p1) by unfold pAtom; rw [if_neg cv, if_neg n35, if_pos c39], bnd_bnd]
      exact MB.bd X (text_m X m hlt) fun a p1 h1 X1 m1 hp1 hp2 => by rw [bnd_l]; exact tail_m X1 m1 hp2 _
    · rw [if_neg c39, if_neg (by omega)]
      by_cases c35 : hereL L p = 35
      · obtain ⟨hlt, _⟩ := here_lt c35 (by decide)
        rw [if_pos c35, show pAtom L p = .inl ((2, 0, vN, []), p + 1) by unfold pAtom; rw [if_neg cv, if_pos c35], bnd_l]
        exact step _ hlt
      · rw [if_neg c35]
        by_cases c45 : hereL L p = 45
        · obtain ⟨hlt, _⟩ := here_lt c45 (by decide)
          rw [if_pos c45, show pAtom L p = bnd (pFigs L (p + 1)) fun m p1 => .inl ((0, 0, vI (-iN m), []), p1) by unfold pAtom; rw [if_neg cv, if_neg c35, if_neg c39, if_pos c45], bnd_bnd]
          exact (MB.bd (X.fs (MS.at _)) (figs_m (X.fs (MS.at _)) (m.at (p + 1)) hlt) fun a p1 h1 X1 m1 hp1 hp2 => by rw [bnd_l]; exact tail_m X1 m1 hp2 _).up (MS.at _) (Nat.le_succ p)
        · rw [if_neg c45, show pAtom L p = bnd (pFigs L p) fun m p1 => .inl ((0, 0, vI (iN m), []), p1) by unfold pAtom; rw [if_neg cv, if_neg c35, if_neg c39, if_neg c45], bnd_bnd]
          exact (MB.bd (X.fs (MS.at _)) (figs_m (X.fs (MS.at _)) (m.at (p + 0)) hp') fun a p1 h1 X1 m1 hp1 hp2 => by rw [bnd_l]; exact tail_m X1 m1 hp2 _).up (MS.at _) (Nat.le_refl p)
theorem cond_m {h : hp} {S off p c : Nat} {L : List Int32} (X : MX h S off L) (m : MP h p c) (hp' : p ≤ L.length) : MB L h p (pCond L p) (fun _ => c) (fX14_isConditionRead 165 h) := by
  have w := X.1
  have hl := X.2.2.2.2.2.2.2.2
  unfold fX14_isConditionRead
  rw [ckM w, Option.bind_some, here_m X m (by omega), bd2_s]
  simp only [jn_e]
  rw [pCond_e]
  by_cases c33 : hereL L p = 33
  · obtain ⟨hlt, _⟩ := here_lt c33 (by decide)
    rw [if_pos c33, if_pos c33, gM w, Option.bind_some, pM w, Option.bind_some, m.1, i_succ, ckM (X.fs (MS.at _)).1, Option.bind_some]
    refine MB.up (h1 := pI h 165 14 (iN (p + 1))) (p1 := p + 1) ?_ (MS.at _) (Nat.le_succ p)
    exact (MB.mp (g := fun e => (1, e, eN)) (expr_m (X.fs (MS.at _)) (m.at (p + 1)) hlt)).zc
  · rw [if_neg c33, if_neg c33, ckM w, Option.bind_some]
    refine MB.bd X (expr_m X m hp') fun e p1 h1 X1 m1 hp1 hp2 => ?_
    have w1 := X1.1
    rw [ckM w1, Option.bind_some, here_m X1 m1 (by omega), bd2_s]
    have two : ∀ s : Nat, p1 < L.length → MB L h1 p1 (bnd (pExpr L (p1 + 1)) fun e2 p2 => .inl ((s, e, e2), p2)) (fun _ => c) ((gfI h1 165 13 14).bind fun v13 => (pfI h1 165 13 14 (v13 + 1)).bind fun h15 => (ckT h15 165 13).bind fun _ => bd2 (fX14_isExpressionRead 165 h15) fun v18 h19 => (zck v18).bind fun _ => some (v18, h19)) := fun s hlt => by
      rw [gM w1, Option.bind_some, pM w1, Option.bind_some, m1.1, i_succ, ckM (X1.fs (MS.at _)).1, Option.bind_some]
      refine MB.up (h1 := pI h1 165 14 (iN (p1 + 1))) (p1 := p1 + 1) ?_ (MS.at _) (Nat.le_succ p1)
      exact (MB.mp (g := fun e2 => (s, e, e2)) (expr_m (X1.fs (MS.at _)) (m1.at (p1 + 1)) hlt)).zc
    unfold pC2
    rw [if_pos rfl]
    by_cases c60 : hereL L p1 = 60
    · rw [if_pos c60, if_pos c60]
      exact two 2 (here_lt c60 (by decide)).1
    rw [if_neg c60, if_neg c60, ckM w1, Option.bind_some, here_m X1 m1 (by omega), bd2_s]
    by_cases c61 : hereL L p1 = 61
    · rw [if_pos c61, if_pos c61]
      exact two 3 (here_lt c61 (by decide)).1
    · rw [if_neg c61, if_neg c61]
      exact MB.yes m1 hp2 _ rfl

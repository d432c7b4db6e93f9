/-! truth, order and SHOWN, on both sides -/
/-- whether a value is TRUE -/
def trS (V : vT) : Int32 := if V.1 = 1 then (if V.2.1 = 0 then 0 else 1) else if V.1 = 2 then (if (Op.cmpValue (FP.fcmp V.2.2.1 FP.fconst0) .l) = 0 then 0 else 1) else if V.1 = 0 then 0 else if V.2.2.2.1 = 0 then 0 else 1
theorem cTrue {h : hp} {a b : Nat} {V : vT} (H : CV h a b V) : fX11_isTrue a h = some (trS V, h) := by
  obtain ⟨s, x, r, n, f⟩ := V
  obtain ⟨t1, t2, r1, ne⟩ := id H.1
  have hk : hI h a 0 = iN s := H.2.1
  have hs4 : s ≤ 4 := H.2.2.1
  have hsc : s = 0 ∨ s = 1 ∨ s = 2 ∨ s = 3 ∨ s = 4 := by omega
  unfold fX11_isTrue
  rcases hsc with rfl | rfl | rfl | rfl | rfl
  · simp only [gfI, t1, hk, if_true, Option.bind_some, show iN 0 = 0 from rfl, zz01, zz02, zz03, zz04, zz10, zz12, zz13, zz14, zz20, zz21, zz23, zz24, zz30, zz31, zz32, zz34, zz40, zz41, zz42, zz43, if_false]
    rfl
  · have hx : hI h a 1 = x := H.2.2.2.1 rfl
    simp only [gfI, t1, hk, if_true, Option.bind_some, show iN 1 = 1 from rfl, zz01, zz02, zz03, zz04, zz10, zz12, zz13, zz14, zz20, zz21, zz23, zz24, zz30, zz31, zz32, zz34, zz40, zz41, zz42, zz43, if_false, hx]
    by_cases c : x = 0
    · subst c; rfl
    · rw [if_neg c]; unfold trS; simp only [if_true, if_neg c]
  · have hx : hF h a 2 = r := H.2.2.2.2.1 rfl
    simp only [gfI, gfF, t1, hk, if_true, Option.bind_some, show iN 2 = 2 from rfl, zz01, zz02, zz03, zz04, zz10, zz12, zz13, zz14, zz20, zz21, zz23, zz24, zz30, zz31, zz32, zz34, zz40, zz41, zz42, zz43, if_false, hx]
    unfold trS
    simp only [show ¬ 2 = 1 by decide, if_false, if_true]
    split <;> rfl
  · obtain ⟨hs, hn, hf⟩ := H.2.2.2.2.2 (by show 3 ≤ 3; decide)
    replace hs : hI h a 3 = iN n := hs
    replace hn : n ≤ 16 := hn
    simp only [gfI, t1, hk, if_true, Option.bind_some, show iN 3 = 3 from rfl, zz01, zz02, zz03, zz04, zz10, zz12, zz13, zz14, zz20, zz21, zz23, zz24, zz30, zz31, zz32, zz34, zz40, zz41, zz42, zz43, if_false, hs]
    unfold trS
    simp only [show ¬ 3 = 1 by decide, show ¬ 3 = 2 by decide, show ¬ 3 = 0 by decide, if_false]
    by_cases c : n = 0
    · subst c; rfl
    · rw [if_neg (by rw [i_le_lit (by decide) (by omega)]; omega), if_neg c]
  · obtain ⟨hs, hn, hf⟩ := H.2.2.2.2.2 (by show 3 ≤ 4; decide)
    replace hs : hI h a 3 = iN n := hs
    replace hn : n ≤ 16 := hn
    simp only [gfI, t1, hk, if_true, Option.bind_some, show iN 4 = 4 from rfl, zz01, zz02, zz03, zz04, zz10, zz12, zz13, zz14, zz20, zz21, zz23, zz24, zz30, zz31, zz32, zz34, zz40, zz41, zz42, zz43, if_false, hs]
    unfold trS
    simp only [show ¬ 4 = 1 by decide, show ¬ 4 = 2 by decide, show ¬ 4 = 0 by decide, if_false]
    by_cases c : n = 0
    · subst c; rfl
    · rw [if_neg (by rw [i_le_lit (by decide) (by omega)]; omega), if_neg c]
theorem mTrue {h : hp} (w : WF h) {t : Nat} {V : vT} (ht : t < 10) (H : MV h t V) : fX14_isTrue 165 (iN t) h = some (trS V, h) := by
  obtain ⟨s, x, r, n, f⟩ := V
  have hk : hI h 166 t = iN s := H.1
  have hs4 : s ≤ 4 := H.2.1
  have hsc : s = 0 ∨ s = 1 ∨ s = 2 ∨ s = 3 ∨ s = 4 := by omega
  unfold fX14_isTrue
  rw [MR0 w, Option.bind_some, ML166 w ht, Option.bind_some, hk]
  rcases hsc with rfl | rfl | rfl | rfl | rfl
  · rfl
  · have hx : hI h 167 t = x := H.2.2.1 rfl
    simp (disch := (first | assumption | (simp only [WF_e1, WF_e2, WF_e3, WF_e4, WF_e5]; assumption) | omega | decide)) only [MR1, ML167, hk, if_true, Option.bind_some, show iN 1 = 1 from rfl, zz01, zz02, zz03, zz04, zz10, zz12, zz13, zz14, zz20, zz21, zz23, zz24, zz30, zz31, zz32, zz34, zz40, zz41, zz42, zz43, if_false, hx]
    by_cases c : x = 0
    · subst c; rfl
    · rw [if_neg c]; unfold trS; simp only [if_true, if_neg c]
  · have hx : hF h 170 t = r := H.2.2.2.1 rfl
    simp (disch := (first | assumption | (simp only [WF_e1, WF_e2, WF_e3, WF_e4, WF_e5]; assumption) | omega | decide)) only [MR4, ML170, hk, if_true, Option.bind_some, show iN 2 = 2 from rfl, zz01, zz02, zz03, zz04, zz10, zz12, zz13, zz14, zz20, zz21, zz23, zz24, zz30, zz31, zz32, zz34, zz40, zz41, zz42, zz43, if_false, hx]
    unfold trS
    simp only [show ¬ 2 = 1 by decide, if_false, if_true]
    split <;> rfl
  · obtain ⟨hs, hn, hf⟩ := H.2.2.2.2 (by show 3 ≤ 3; decide)
    replace hs : hI h 168 t = iN n := hs
    replace hn : n ≤ 16 := hn
    simp (disch := (first | assumption | (simp only [WF_e1, WF_e2, WF_e3, WF_e4, WF_e5]; assumption) | omega | decide)) only [MR2, ML168, hk, if_true, Option.bind_some, show iN 3 = 3 from rfl, zz01, zz02, zz03, zz04, zz10, zz12, zz13, zz14, zz20, zz21, zz23, zz24, zz30, zz31, zz32, zz34, zz40, zz41, zz42, zz43, if_false, hs]
    unfold trS
    simp only [show ¬ 3 = 1 by decide, show ¬ 3 = 2 by decide, show ¬ 3 = 0 by decide, if_false]
    by_cases c : n = 0
    · subst c; rfl
    · rw [if_neg (by rw [i_le_lit (by decide) (by omega)]; omega), if_neg c]
  · obtain ⟨hs, hn, hf⟩ := H.2.2.2.2 (by show 3 ≤ 4; decide)
    replace hs : hI h 168 t = iN n := hs
    replace hn : n ≤ 16 := hn
    simp (disch := (first | assumption | (simp only [WF_e1, WF_e2, WF_e3, WF_e4, WF_e5]; assumption) | omega | decide)) only [MR2, ML168, hk, if_true, Option.bind_some, show iN 4 = 4 from rfl, zz01, zz02, zz03, zz04, zz10, zz12, zz13, zz14, zz20, zz21, zz23, zz24, zz30, zz31, zz32, zz34, zz40, zz41, zz42, zz43, if_false, hs]
    unfold trS
    simp only [show ¬ 4 = 1 by decide, show ¬ 4 = 2 by decide, show ¬ 4 = 0 by decide, if_false]
    by_cases c : n = 0
    · subst c; rfl
    · rw [if_neg (by rw [i_le_lit (by decide) (by omega)]; omega), if_neg c]
/-! order -/
/-- texts by their bytes, the shorter first: what the reference says of d places from k on -/
def tcF (f g : Nat → Int32) (n m : Nat) : Nat → Nat → Int32
  | 0, _ => iN n - iN m
  | d + 1, k => if f k - g k = 0 then tcF f g n m d (k + 1) else f k - g k
def nuF (V : vT) : UInt32 := if V.1 = 1 then FP.i2f V.2.1 else V.2.2.1
/-- what the order of two is (the reference's words: below 0, 0, above it), none: KIND -/
def cmS (V W : vT) : Option Int32 :=
  if V.1 = 3 ∧ W.1 = 3 then some (tcF V.2.2.2.2 W.2.2.2.2 V.2.2.2.1 W.2.2.2.1 (min V.2.2.2.1 W.2.2.2.1) 0)
  else if (V.1 = 1 ∨ V.1 = 2) ∧ (W.1 = 1 ∨ W.1 = 2) then
    (if V.1 = 1 ∧ W.1 = 1 then some (if W.2.1 ≤ V.2.1 then (if V.2.1 ≤ W.2.1 then 0 else 1) else -1)
     else some (if 0 ≤ (Op.cmpValue (FP.fcmp (nuF V) (nuF W)) .g) then (if (Op.cmpValue (FP.fcmp (nuF V) (nuF W)) .l) ≤ 0 then 0 else 1) else -1))
  else none
def sgI (x : Int32) : Int32 := if x < 0 then -1 else if x = 0 then 0 else 1
theorem by_sub {x y : Int32} (hx : 0 ≤ x.toInt ∧ x.toInt ≤ 127) (hy : 0 ≤ y.toInt ∧ y.toInt ≤ 127) : (x - y = 0 ↔ x = y) ∧ (x - y < 0 ↔ x < y) := by
  have e : (x - y).toInt = x.toInt - y.toInt := Jvm.Kit.i32_sub (by omega) (by omega)
  constructor
  · rw [← Int32.toInt_inj, e, ← Int32.toInt_inj, show (0 : Int32).toInt = 0 by decide]; omega
  · rw [Int32.lt_iff_toInt_lt, e, Int32.lt_iff_toInt_lt, show (0 : Int32).toInt = 0 by decide]; omega
theorem cTc_l {h : hp} {a b a' b' n n' : Nat} {f g : Nat → Int32} (H : VO h a b) (H' : VO h a' b') (hs : hI h a 3 = iN n) (hs' : hI h a' 3 = iN n') (hn : n ≤ 16) (hn' : n' ≤ 16) (hf : ∀ k, k < n → hI h b k = f k) (hg : ∀ k, k < n' → hI h b' k = g k) (bf : ∀ k, k < n → 1 ≤ (f k).toInt ∧ (f k).toInt ≤ 127) (bg : ∀ k, k < n' → 1 ≤ (g k).toInt ∧ (g k).toInt ≤ 127) : ∀ (d k m : Nat), k + d = min n n' → d < m → (∃ p, p < min n n' ∧ fX11_compareItems_l14 m a a' (iN (min n n')) (iN k) h = some (0, iN p, h) ∧ f p ≠ g p ∧ tcF f g n n' d k = f p - g p) ∨ (fX11_compareItems_l14 m a a' (iN (min n n')) (iN k) h = some (1, iN (min n n'), h) ∧ tcF f g n n' d k = iN n - iN n') := by
  obtain ⟨t1, t2, r1, ne⟩ := id H
  obtain ⟨u1, u2, v1, ne'⟩ := id H'
  intro d
  induction d with
  | zero =>
    intro k m hk hm
    obtain ⟨m, rfl⟩ : ∃ q, m = q + 1 := ⟨m - 1, by omega⟩
    have e : iN (min n n') ≤ iN k := by rw [i_le (by omega) (by omega)]; omega
    refine .inr ⟨?_, rfl⟩
    rw [show k = min n n' by omega] at e ⊢
    simp only [fX11_compareItems_l14, e, if_true]
  | succ d ih =>
    intro k m hk hm
    obtain ⟨m, rfl⟩ : ∃ q, m = q + 1 := ⟨m - 1, by omega⟩
    have e : ¬ (iN (min n n') ≤ iN k) := by rw [i_le (by omega) (by omega)]; omega
    have kf := bf k (by omega)
    have kg := bg k (by omega)
    have bs := by_sub (x := f k) (y := g k) (by omega) (by omega)
    simp only [fX11_compareItems_l14, e, if_false, ckT, t1, u1, if_true, Option.bind_some, bd2, vAt H hs hn (show k < n by omega), vAt H' hs' hn' (show k < n' by omega), hf k (by omega), hg k (by omega), tcF, i_succ]
    by_cases c : f k = g k
    · rw [if_pos c, if_pos (bs.1.mpr c)]
      exact ih (k + 1) m (by omega) (by omega)
    · rw [if_neg c, if_neg (fun q => c (bs.1.mp q))]
      exact .inl ⟨k, by omega, rfl, c, rfl⟩
theorem cCmp {h : hp} {a b a' b' : Nat} {V W : vT} (H : CV h a b V) (H' : CV h a' b' W) (g : gV V) (g' : gV W) : fX11_compareWith a a' h = some (match cmS V W with | some x => sgI x | none => 2, h) := by
  obtain ⟨s, x, r, n, f⟩ := V
  obtain ⟨s', x', r', n', f'⟩ := W
  obtain ⟨t1, t2, r1, ne⟩ := id H.1
  obtain ⟨u1, u2, v1, ne'⟩ := id H'.1
  have hk : hI h a 0 = iN s := H.2.1
  have hk' : hI h a' 0 = iN s' := H'.2.1
  have hs4 : s ≤ 4 := H.2.2.1
  have hs4' : s' ≤ 4 := H'.2.2.1
  have q3 : ∀ z, z ≤ 4 → ((iN z = 3) = (z = 3)) := fun z hz => i_eq_lit (by decide) (by omega)
  have q1 : ∀ z, z ≤ 4 → ((iN z = 1) = (z = 1)) := fun z hz => i_eq_lit (by decide) (by omega)
  have q2 : ∀ z, z ≤ 4 → ((iN z = 2) = (z = 2)) := fun z hz => i_eq_lit (by decide) (by omega)
  have z10 : ¬ ((1 : Int32) = 0) := by decide
  by_cases c3 : s = 3 ∧ s' = 3
  · obtain ⟨rfl, rfl⟩ := c3
    obtain ⟨hs, hn, hf⟩ := H.2.2.2.2.2 (by show 3 ≤ 3; decide)
    replace hs : hI h a 3 = iN n := hs
    replace hn : n ≤ 16 := hn
    replace hf : ∀ k, k < n → hI h b k = f k := hf
    obtain ⟨hs', hn', hf'⟩ := H'.2.2.2.2.2 (by show 3 ≤ 3; decide)
    replace hs' : hI h a' 3 = iN n' := hs'
    replace hn' : n' ≤ 16 := hn'
    replace hf' : ∀ k, k < n' → hI h b' k = f' k := hf'
    have bf : ∀ k, k < n → 1 ≤ (f k).toInt ∧ (f k).toInt ≤ 127 := (g.2.2.2.1 rfl).2
    have bf' : ∀ k, k < n' → 1 ≤ (f' k).toInt ∧ (f' k).toInt ≤ 127 := (g'.2.2.2.1 rfl).2
    have ecm : cmS (3, x, r, n, f) (3, x', r', n', f') = some (tcF f f' n n' (min n n') 0) := rfl
    rw [ecm]
    simp only [fX11_compareWith, fX11_compareItems, jn_e, gfI, ckT, t1, u1, if_true, Option.bind_some, hk, hk', show iN 3 = 3 from rfl, hs, hs', bd2, cMin n n' (by omega) (by omega), bd3]
    rcases cTc_l H.1 H'.1 hs hs' hn hn' hf hf' bf bf' (min n n') 0 FU (by omega) (by show _ < 1000000; omega) with ⟨p, p1, p2, p3, p4⟩ | ⟨p2, p4⟩
    · rw [show fX11_compareItems_l14 FU a a' (iN (min n n')) 0 h = _ from p2, p4]
      have kf := bf p (by omega)
      have kg := bf' p (by omega)
      have bs := by_sub (x := f p) (y := f' p) (by omega) (by omega)
      simp only [Option.bind_some, if_true, vAt H.1 hs hn (show p < n by omega), vAt H'.1 hs' hn' (show p < n' by omega), hf p (by omega), hf' p (by omega), t1, u1]
      unfold sgI
      by_cases c : f p < f' p
      · rw [if_neg (by rw [i_nle]; exact c), if_pos (bs.2.mpr c)]; rfl
      · rw [if_pos (i_nlt2.mp c), if_neg (fun q => c (bs.2.mp q)), if_neg (fun q => p3 (bs.1.mp q))]; rfl
    · rw [show fX11_compareItems_l14 FU a a' (iN (min n n')) 0 h = _ from p2, p4]
      have bs := by_sub (x := iN n) (y := iN n') (by rw [i_toInt (by omega)]; omega) (by rw [i_toInt (by omega)]; omega)
      simp only [Option.bind_some, if_true, show ¬ (1 : Nat) = 0 by decide, if_false, t1, u1, hs, hs', fJ6_compare_7cf53]
      unfold sgI
      by_cases c : iN n < iN n'
      · rw [if_neg (by rw [i_nle]; exact c), if_pos (bs.2.mpr c)]; rfl
      · rw [if_pos (i_nlt2.mp c), if_neg (fun q => c (bs.2.mp q))]
        by_cases c2 : iN n = iN n'
        · rw [if_pos c2, if_pos (bs.1.mpr c2)]; rfl
        · rw [if_neg c2, if_neg (fun q => c2 (bs.1.mp q))]; rfl
  · by_cases cn : (s = 1 ∨ s = 2) ∧ (s' = 1 ∨ s' = 2)
    · have hx1 : s = 1 → hI h a 1 = x := fun e => H.2.2.2.1 e
      have hx2 : s = 2 → hF h a 2 = r := fun e => H.2.2.2.2.1 e
      have hy1 : s' = 1 → hI h a' 1 = x' := fun e => H'.2.2.2.1 e
      have hy2 : s' = 2 → hF h a' 2 = r' := fun e => H'.2.2.2.2.1 e
      rcases cn with ⟨rfl | rfl, rfl | rfl⟩
      · rw [show cmS (1, x, r, n, f) (1, x', r', n', f') = some (if x' ≤ x then (if x ≤ x' then 0 else 1) else -1) from rfl]
        simp only [fX11_compareWith, fX11_isNumeric, jn_e, gfI, gfF, ckT, t1, u1, if_true, if_false, Option.bind_some, hk, hk', show iN 1 = 1 from rfl, zz01, zz02, zz03, zz04, zz10, zz12, zz13, zz14, zz20, zz21, zz23, zz24, zz30, zz31, zz32, zz34, zz40, zz41, zz42, zz43, z10, bd2, hx1 rfl, hy1 rfl, fJ6_compare_7cf53]
        by_cases c : x' ≤ x
        · simp only [c, if_true]
          by_cases c2 : x = x'
          · subst c2; simp only [c, if_true]; rfl
          · have c4 : ¬ x ≤ x' := fun q => c2 (by rw [← Int32.toInt_inj]; rw [Int32.le_iff_toInt_le] at c q; omega)
            simp only [c2, c4, if_false]; rfl
        · simp only [c, if_false]; rfl
      · rw [show cmS (1, x, r, n, f) (2, x', r', n', f') = some (if 0 ≤ (Op.cmpValue (FP.fcmp (FP.i2f x) (r')) .g) then (if (Op.cmpValue (FP.fcmp (FP.i2f x) (r')) .l) ≤ 0 then 0 else 1) else -1) from rfl]
        simp only [fX11_compareWith, fX11_isNumeric, jn_e, gfI, gfF, ckT, t1, u1, if_true, if_false, Option.bind_some, hk, hk', show iN 1 = 1 from rfl, show iN 2 = 2 from rfl, zz01, zz02, zz03, zz04, zz10, zz12, zz13, zz14, zz20, zz21, zz23, zz24, zz30, zz31, zz32, zz34, zz40, zz41, zz42, zz43, z10, bd2, hx1 rfl, hy2 rfl]
        by_cases c : 0 ≤ (Op.cmpValue (FP.fcmp (FP.i2f x) (r')) .g)
        · by_cases c2 : (Op.cmpValue (FP.fcmp (FP.i2f x) (r')) .l) ≤ 0
          · simp only [c, c2, if_true]; rfl
          · simp only [c, c2, if_true, if_false]; rfl
        · simp only [c, if_false]; rfl
      · rw [show cmS (2, x, r, n, f) (1, x', r', n', f') = some (if 0 ≤ (Op.cmpValue (FP.fcmp (r) (FP.i2f x')) .g) then (if (Op.cmpValue (FP.fcmp (r) (FP.i2f x')) .l) ≤ 0 then 0 else 1) else -1) from rfl]
        simp only [fX11_compareWith, fX11_isNumeric, jn_e, gfI, gfF, ckT, t1, u1, if_true, if_false, Option.bind_some, hk, hk', show iN 1 = 1 from rfl, show iN 2 = 2 from rfl, zz01, zz02, zz03, zz04, zz10, zz12, zz13, zz14, zz20, zz21, zz23, zz24, zz30, zz31, zz32, zz34, zz40, zz41, zz42, zz43, z10, bd2, hx2 rfl, hy1 rfl]
        by_cases c : 0 ≤ (Op.cmpValue (FP.fcmp (r) (FP.i2f x')) .g)
        · by_cases c2 : (Op.cmpValue (FP.fcmp (r) (FP.i2f x')) .l) ≤ 0
          · simp only [c, c2, if_true]; rfl
          · simp only [c, c2, if_true, if_false]; rfl
        · simp only [c, if_false]; rfl
      · rw [show cmS (2, x, r, n, f) (2, x', r', n', f') = some (if 0 ≤ (Op.cmpValue (FP.fcmp (r) (r')) .g) then (if (Op.cmpValue (FP.fcmp (r) (r')) .l) ≤ 0 then 0 else 1) else -1) from rfl]
        simp only [fX11_compareWith, fX11_isNumeric, jn_e, gfI, gfF, ckT, t1, u1, if_true, if_false, Option.bind_some, hk, hk', show iN 1 = 1 from rfl, show iN 2 = 2 from rfl, zz01, zz02, zz03, zz04, zz10, zz12, zz13, zz14, zz20, zz21, zz23, zz24, zz30, zz31, zz32, zz34, zz40, zz41, zz42, zz43, z10, bd2, hx2 rfl, hy2 rfl]
        by_cases c : 0 ≤ (Op.cmpValue (FP.fcmp (r) (r')) .g)
        · by_cases c2 : (Op.cmpValue (FP.fcmp (r) (r')) .l) ≤ 0
          · simp only [c, c2, if_true]; rfl
          · simp only [c, c2, if_true, if_false]; rfl
        · simp only [c, if_false]; rfl
    · have en : cmS (s, x, r, n, f) (s', x', r', n', f') = none := by
        unfold cmS
        rw [if_neg c3, if_neg cn]
      rw [en]
      have hsc : s = 0 ∨ s = 1 ∨ s = 2 ∨ s = 3 ∨ s = 4 := by omega
      have hsc' : s' = 0 ∨ s' = 1 ∨ s' = 2 ∨ s' = 3 ∨ s' = 4 := by omega
      rcases hsc with rfl | rfl | rfl | rfl | rfl <;> rcases hsc' with rfl | rfl | rfl | rfl | rfl
      · simp only [fX11_compareWith, fX11_isNumeric, jn_e, gfI, ckT, t1, u1, if_true, if_false, Option.bind_some, hk, hk', show iN 0 = 0 from rfl, show iN 0 = 0 from rfl, zz01, zz02, zz03, zz04, zz10, zz12, zz13, zz14, zz20, zz21, zz23, zz24, zz30, zz31, zz32, zz34, zz40, zz41, zz42, zz43, z10, bd2]
      · simp only [fX11_compareWith, fX11_isNumeric, jn_e, gfI, ckT, t1, u1, if_true, if_false, Option.bind_some, hk, hk', show iN 0 = 0 from rfl, show iN 1 = 1 from rfl, zz01, zz02, zz03, zz04, zz10, zz12, zz13, zz14, zz20, zz21, zz23, zz24, zz30, zz31, zz32, zz34, zz40, zz41, zz42, zz43, z10, bd2]
      · simp only [fX11_compareWith, fX11_isNumeric, jn_e, gfI, ckT, t1, u1, if_true, if_false, Option.bind_some, hk, hk', show iN 0 = 0 from rfl, show iN 2 = 2 from rfl, zz01, zz02, zz03, zz04, zz10, zz12, zz13, zz14, zz20, zz21, zz23, zz24, zz30, zz31, zz32, zz34, zz40, zz41, zz42, zz43, z10, bd2]
      · simp only [fX11_compareWith, fX11_isNumeric, jn_e, gfI, ckT, t1, u1, if_true, if_false, Option.bind_some, hk, hk', show iN 0 = 0 from rfl, show iN 3 = 3 from rfl, zz01, zz02, zz03, zz04, zz10, zz12, zz13, zz14, zz20, zz21, zz23, zz24, zz30, zz31, zz32, zz34, zz40, zz41, zz42, zz43, z10, bd2]
      · simp only [fX11_compareWith, fX11_isNumeric, jn_e, gfI, ckT, t1, u1, if_true, if_false, Option.bind_some, hk, hk', show iN 0 = 0 from rfl, show iN 4 = 4 from rfl, zz01, zz02, zz03, zz04, zz10, zz12, zz13, zz14, zz20, zz21, zz23, zz24, zz30, zz31, zz32, zz34, zz40, zz41, zz42, zz43, z10, bd2]
      · simp only [fX11_compareWith, fX11_isNumeric, jn_e, gfI, ckT, t1, u1, if_true, if_false, Option.bind_some, hk, hk', show iN 1 = 1 from rfl, show iN 0 = 0 from rfl, zz01, zz02, zz03, zz04, zz10, zz12, zz13, zz14, zz20, zz21, zz23, zz24, zz30, zz31, zz32, zz34, zz40, zz41, zz42, zz43, z10, bd2]
      · exact absurd ⟨by simp, by simp⟩ cn
      · exact absurd ⟨by simp, by simp⟩ cn
      · simp only [fX11_compareWith, fX11_isNumeric, jn_e, gfI, ckT, t1, u1, if_true, if_false, Option.bind_some, hk, hk', show iN 1 = 1 from rfl, show iN 3 = 3 from rfl, zz01, zz02, zz03, zz04, zz10, zz12, zz13, zz14, zz20, zz21, zz23, zz24, zz30, zz31, zz32, zz34, zz40, zz41, zz42, zz43, z10, bd2]
      · simp only [fX11_compareWith, fX11_isNumeric, jn_e, gfI, ckT, t1, u1, if_true, if_false, Option.bind_some, hk, hk', show iN 1 = 1 from rfl, show iN 4 = 4 from rfl, zz01, zz02, zz03, zz04, zz10, zz12, zz13, zz14, zz20, zz21, zz23, zz24, zz30, zz31, zz32, zz34, zz40, zz41, zz42, zz43, z10, bd2]
      · simp only [fX11_compareWith, fX11_isNumeric, jn_e, gfI, ckT, t1, u1, if_true, if_false, Option.bind_some, hk, hk', show iN 2 = 2 from rfl, show iN 0 = 0 from rfl, zz01, zz02, zz03, zz04, zz10, zz12, zz13, zz14, zz20, zz21, zz23, zz24, zz30, zz31, zz32, zz34, zz40, zz41, zz42, zz43, z10, bd2]
      · exact absurd ⟨by simp, by simp⟩ cn
      · exact absurd ⟨by simp, by simp⟩ cn
      · simp only [fX11_compareWith, fX11_isNumeric, jn_e, gfI, ckT, t1, u1, if_true, if_false, Option.bind_some, hk, hk', show iN 2 = 2 from rfl, show iN 3 = 3 from rfl, zz01, zz02, zz03, zz04, zz10, zz12, zz13, zz14, zz20, zz21, zz23, zz24, zz30, zz31, zz32, zz34, zz40, zz41, zz42, zz43, z10, bd2]
      · simp only [fX11_compareWith, fX11_isNumeric, jn_e, gfI, ckT, t1, u1, if_true, if_false, Option.bind_some, hk, hk', show iN 2 = 2 from rfl, show iN 4 = 4 from rfl, zz01, zz02, zz03, zz04, zz10, zz12, zz13, zz14, zz20, zz21, zz23, zz24, zz30, zz31, zz32, zz34, zz40, zz41, zz42, zz43, z10, bd2]
      · simp only [fX11_compareWith, fX11_isNumeric, jn_e, gfI, ckT, t1, u1, if_true, if_false, Option.bind_some, hk, hk', show iN 3 = 3 from rfl, show iN 0 = 0 from rfl, zz01, zz02, zz03, zz04, zz10, zz12, zz13, zz14, zz20, zz21, zz23, zz24, zz30, zz31, zz32, zz34, zz40, zz41, zz42, zz43, z10, bd2]
      · simp only [fX11_compareWith, fX11_isNumeric, jn_e, gfI, ckT, t1, u1, if_true, if_false, Option.bind_some, hk, hk', show iN 3 = 3 from rfl, show iN 1 = 1 from rfl, zz01, zz02, zz03, zz04, zz10, zz12, zz13, zz14, zz20, zz21, zz23, zz24, zz30, zz31, zz32, zz34, zz40, zz41, zz42, zz43, z10, bd2]
      · simp only [fX11_compareWith, fX11_isNumeric, jn_e, gfI, ckT, t1, u1, if_true, if_false, Option.bind_some, hk, hk', show iN 3 = 3 from rfl, show iN 2 = 2 from rfl, zz01, zz02, zz03, zz04, zz10, zz12, zz13, zz14, zz20, zz21, zz23, zz24, zz30, zz31, zz32, zz34, zz40, zz41, zz42, zz43, z10, bd2]
      · exact absurd ⟨rfl, rfl⟩ c3
      · simp only [fX11_compareWith, fX11_isNumeric, jn_e, gfI, ckT, t1, u1, if_true, if_false, Option.bind_some, hk, hk', show iN 3 = 3 from rfl, show iN 4 = 4 from rfl, zz01, zz02, zz03, zz04, zz10, zz12, zz13, zz14, zz20, zz21, zz23, zz24, zz30, zz31, zz32, zz34, zz40, zz41, zz42, zz43, z10, bd2]
      · simp only [fX11_compareWith, fX11_isNumeric, jn_e, gfI, ckT, t1, u1, if_true, if_false, Option.bind_some, hk, hk', show iN 4 = 4 from rfl, show iN 0 = 0 from rfl, zz01, zz02, zz03, zz04, zz10, zz12, zz13, zz14, zz20, zz21, zz23, zz24, zz30, zz31, zz32, zz34, zz40, zz41, zz42, zz43, z10, bd2]
      · simp only [fX11_compareWith, fX11_isNumeric, jn_e, gfI, ckT, t1, u1, if_true, if_false, Option.bind_some, hk, hk', show iN 4 = 4 from rfl, show iN 1 = 1 from rfl, zz01, zz02, zz03, zz04, zz10, zz12, zz13, zz14, zz20, zz21, zz23, zz24, zz30, zz31, zz32, zz34, zz40, zz41, zz42, zz43, z10, bd2]
      · simp only [fX11_compareWith, fX11_isNumeric, jn_e, gfI, ckT, t1, u1, if_true, if_false, Option.bind_some, hk, hk', show iN 4 = 4 from rfl, show iN 2 = 2 from rfl, zz01, zz02, zz03, zz04, zz10, zz12, zz13, zz14, zz20, zz21, zz23, zz24, zz30, zz31, zz32, zz34, zz40, zz41, zz42, zz43, z10, bd2]
      · simp only [fX11_compareWith, fX11_isNumeric, jn_e, gfI, ckT, t1, u1, if_true, if_false, Option.bind_some, hk, hk', show iN 4 = 4 from rfl, show iN 3 = 3 from rfl, zz01, zz02, zz03, zz04, zz10, zz12, zz13, zz14, zz20, zz21, zz23, zz24, zz30, zz31, zz32, zz34, zz40, zz41, zz42, zz43, z10, bd2]
      · simp only [fX11_compareWith, fX11_isNumeric, jn_e, gfI, ckT, t1, u1, if_true, if_false, Option.bind_some, hk, hk', show iN 4 = 4 from rfl, show iN 4 = 4 from rfl, zz01, zz02, zz03, zz04, zz10, zz12, zz13, zz14, zz20, zz21, zz23, zz24, zz30, zz31, zz32, zz34, zz40, zz41, zz42, zz43, z10, bd2]
theorem mTc_l {h : hp} (w : WF h) {t t' n n' : Nat} {f g : Nat → Int32} (ht : t < 10) (ht' : t' < 10) (hs : hI h 168 t = iN n) (hs' : hI h 168 t' = iN n') (hn : n ≤ 16) (hn' : n' ≤ 16) (hf : ∀ k, k < n → hI h 169 (16 * t + k) = f k) (hg : ∀ k, k < n' → hI h 169 (16 * t' + k) = g k) : ∀ (d k m : Nat), k + d = min n n' → d < m → (∃ y, fX14_compared_l12 m 165 (iN t) (iN t') (iN k) h = some (0, y, h) ∧ tcF f g n n' d k = y) ∨ (fX14_compared_l12 m 165 (iN t) (iN t') (iN k) h = some (1, 0, h) ∧ tcF f g n n' d k = iN n - iN n') := by
  intro d
  induction d with
  | zero =>
    intro k m hk hm
    obtain ⟨m, rfl⟩ : ∃ q, m = q + 1 := ⟨m - 1, by omega⟩
    refine .inr ⟨?_, rfl⟩
    by_cases c : n ≤ k
    · have e : iN n ≤ iN k := by rw [i_le (by omega) (by omega)]; omega
      simp (disch := (first | assumption | (simp only [WF_e1, WF_e2, WF_e3, WF_e4, WF_e5]; assumption) | omega | decide)) only [fX14_compared_l12, MR2, ML168, Option.bind_some, hs, e, if_true]
    · have e : ¬ (iN n ≤ iN k) := by rw [i_le (by omega) (by omega)]; omega
      have e' : iN n' ≤ iN k := by rw [i_le (by omega) (by omega)]; omega
      simp (disch := (first | assumption | (simp only [WF_e1, WF_e2, WF_e3, WF_e4, WF_e5]; assumption) | omega | decide)) only [fX14_compared_l12, MR2, ML168, Option.bind_some, hs, hs', e, e', if_true, if_false]
  | succ d ih =>
    intro k m hk hm
    obtain ⟨m, rfl⟩ : ∃ q, m = q + 1 := ⟨m - 1, by omega⟩
    have e : ¬ (iN n ≤ iN k) := by rw [i_le (by omega) (by omega)]; omega
    have e' : ¬ (iN n' ≤ iN k) := by rw [i_le (by omega) (by omega)]; omega
    simp (disch := (first | assumption | (simp only [WF_e1, WF_e2, WF_e3, WF_e4, WF_e5]; assumption) | omega | decide)) only [fX14_compared_l12, MR2, MR3, ML168, ML169, Option.bind_some, hs, hs', e, e', if_false, i_mullit, i_add, i_succ, hf k (by omega), hg k (by omega), tcF]
    by_cases c : f k - g k = 0
    · rw [if_pos c, if_pos c]
      exact ih (k + 1) m (by omega) (by omega)
    · rw [if_neg c, if_neg c]
      exact .inl ⟨_, rfl, rfl⟩
theorem mCmp {h : hp} (w : WF h) {t t' : Nat} {V W : vT} (ht : t < 10) (ht' : t' < 10) (H : MV h t V) (H' : MV h t' W) : (fX14_areComparable 165 (iN t) (iN t') h = some (match cmS V W with | some _ => 1 | none => 0, h)) ∧ ∀ x, cmS V W = some x → fX14_compared 165 (iN t) (iN t') h = some (x, h) := by
  obtain ⟨s, x, r, n, f⟩ := V
  obtain ⟨s', x', r', n', f'⟩ := W
  have hk : hI h 166 t = iN s := H.1
  have hk' : hI h 166 t' = iN s' := H'.1
  have hs4 : s ≤ 4 := H.2.1
  have hs4' : s' ≤ 4 := H'.2.1
  have z10 : ¬ ((1 : Int32) = 0) := by decide
  have hx1 : s = 1 → hI h 167 t = x := fun e => H.2.2.1 e
  have hx2 : s = 2 → hF h 170 t = r := fun e => H.2.2.2.1 e
  have hy1 : s' = 1 → hI h 167 t' = x' := fun e => H'.2.2.1 e
  have hy2 : s' = 2 → hF h 170 t' = r' := fun e => H'.2.2.2.1 e
  have hsc : s = 0 ∨ s = 1 ∨ s = 2 ∨ s = 3 ∨ s = 4 := by omega
  have hsc' : s' = 0 ∨ s' = 1 ∨ s' = 2 ∨ s' = 3 ∨ s' = 4 := by omega
  rcases hsc with rfl | rfl | rfl | rfl | rfl <;> rcases hsc' with rfl | rfl | rfl | rfl | rfl
  · have ecm : cmS (0, x, r, n, f) (0, x', r', n', f') = none := rfl
    refine ⟨?_, fun y hy => by rw [ecm] at hy; cases hy⟩
    rw [ecm]
    simp (disch := (first | assumption | (simp only [WF_e1, WF_e2, WF_e3, WF_e4, WF_e5]; assumption) | omega | decide)) only [fX14_areComparable, jn_e, MR0, ML166, if_true, if_false, Option.bind_some, hk, hk', show iN 0 = 0 from rfl, show iN 0 = 0 from rfl, zz01, zz02, zz03, zz04, zz10, zz12, zz13, zz14, zz20, zz21, zz23, zz24, zz30, zz31, zz32, zz34, zz40, zz41, zz42, zz43]
  · have ecm : cmS (0, x, r, n, f) (1, x', r', n', f') = none := rfl
    refine ⟨?_, fun y hy => by rw [ecm] at hy; cases hy⟩
    rw [ecm]
    simp (disch := (first | assumption | (simp only [WF_e1, WF_e2, WF_e3, WF_e4, WF_e5]; assumption) | omega | decide)) only [fX14_areComparable, jn_e, MR0, ML166, if_true, if_false, Option.bind_some, hk, hk', show iN 0 = 0 from rfl, show iN 1 = 1 from rfl, zz01, zz02, zz03, zz04, zz10, zz12, zz13, zz14, zz20, zz21, zz23, zz24, zz30, zz31, zz32, zz34, zz40, zz41, zz42, zz43]
  · have ecm : cmS (0, x, r, n, f) (2, x', r', n', f') = none := rfl
    refine ⟨?_, fun y hy => by rw [ecm] at hy; cases hy⟩
    rw [ecm]
    simp (disch := (first | assumption | (simp only [WF_e1, WF_e2, WF_e3, WF_e4, WF_e5]; assumption) | omega | decide)) only [fX14_areComparable, jn_e, MR0, ML166, if_true, if_false, Option.bind_some, hk, hk', show iN 0 = 0 from rfl, show iN 2 = 2 from rfl, zz01, zz02, zz03, zz04, zz10, zz12, zz13, zz14, zz20, zz21, zz23, zz24, zz30, zz31, zz32, zz34, zz40, zz41, zz42, zz43]
  · have ecm : cmS (0, x, r, n, f) (3, x', r', n', f') = none := rfl
    refine ⟨?_, fun y hy => by rw [ecm] at hy; cases hy⟩
    rw [ecm]
    simp (disch := (first | assumption | (simp only [WF_e1, WF_e2, WF_e3, WF_e4, WF_e5]; assumption) | omega | decide)) only [fX14_areComparable, jn_e, MR0, ML166, if_true, if_false, Option.bind_some, hk, hk', show iN 0 = 0 from rfl, show iN 3 = 3 from rfl, zz01, zz02, zz03, zz04, zz10, zz12, zz13, zz14, zz20, zz21, zz23, zz24, zz30, zz31, zz32, zz34, zz40, zz41, zz42, zz43]
  · have ecm : cmS (0, x, r, n, f) (4, x', r', n', f') = none := rfl
    refine ⟨?_, fun y hy => by rw [ecm] at hy; cases hy⟩
    rw [ecm]
    simp (disch := (first | assumption | (simp only [WF_e1, WF_e2, WF_e3, WF_e4, WF_e5]; assumption) | omega | decide)) only [fX14_areComparable, jn_e, MR0, ML166, if_true, if_false, Option.bind_some, hk, hk', show iN 0 = 0 from rfl, show iN 4 = 4 from rfl, zz01, zz02, zz03, zz04, zz10, zz12, zz13, zz14, zz20, zz21, zz23, zz24, zz30, zz31, zz32, zz34, zz40, zz41, zz42, zz43]
  · have ecm : cmS (1, x, r, n, f) (0, x', r', n', f') = none := rfl
    refine ⟨?_, fun y hy => by rw [ecm] at hy; cases hy⟩
    rw [ecm]
    simp (disch := (first | assumption | (simp only [WF_e1, WF_e2, WF_e3, WF_e4, WF_e5]; assumption) | omega | decide)) only [fX14_areComparable, jn_e, MR0, ML166, if_true, if_false, Option.bind_some, hk, hk', show iN 1 = 1 from rfl, show iN 0 = 0 from rfl, zz01, zz02, zz03, zz04, zz10, zz12, zz13, zz14, zz20, zz21, zz23, zz24, zz30, zz31, zz32, zz34, zz40, zz41, zz42, zz43]
  · have ecm : cmS (1, x, r, n, f) (1, x', r', n', f') = some (if x' ≤ x then (if x ≤ x' then 0 else 1) else -1) := rfl
    refine ⟨?_, fun y hy => ?_⟩
    · rw [ecm]
      simp (disch := (first | assumption | (simp only [WF_e1, WF_e2, WF_e3, WF_e4, WF_e5]; assumption) | omega | decide)) only [fX14_areComparable, jn_e, MR0, ML166, if_true, if_false, Option.bind_some, hk, hk', show iN 1 = 1 from rfl, show iN 1 = 1 from rfl, zz01, zz02, zz03, zz04, zz10, zz12, zz13, zz14, zz20, zz21, zz23, zz24, zz30, zz31, zz32, zz34, zz40, zz41, zz42, zz43]
    · rw [ecm] at hy
      obtain rfl := Option.some.inj hy
      simp (disch := (first | assumption | (simp only [WF_e1, WF_e2, WF_e3, WF_e4, WF_e5]; assumption) | omega | decide)) only [fX14_compared, jn_e, MR0, MR1, ML166, ML167, Option.bind_some, hk, hk', show iN 1 = 1 from rfl, zz01, zz02, zz03, zz04, zz10, zz12, zz13, zz14, zz20, zz21, zz23, zz24, zz30, zz31, zz32, zz34, zz40, zz41, zz42, zz43, if_true, if_false, hx1 rfl, hy1 rfl]
      by_cases c : x' ≤ x
      · by_cases c2 : x ≤ x'
        · simp only [c, c2, if_true]
        · simp only [c, c2, if_true, if_false]
      · simp only [c, if_false]
  · have ecm : cmS (1, x, r, n, f) (2, x', r', n', f') = some (if 0 ≤ (Op.cmpValue (FP.fcmp (FP.i2f x) (r')) .g) then (if (Op.cmpValue (FP.fcmp (FP.i2f x) (r')) .l) ≤ 0 then 0 else 1) else -1) := rfl
    refine ⟨?_, fun y hy => ?_⟩
    · rw [ecm]
      simp (disch := (first | assumption | (simp only [WF_e1, WF_e2, WF_e3, WF_e4, WF_e5]; assumption) | omega | decide)) only [fX14_areComparable, jn_e, MR0, ML166, if_true, if_false, Option.bind_some, hk, hk', show iN 1 = 1 from rfl, show iN 2 = 2 from rfl, zz01, zz02, zz03, zz04, zz10, zz12, zz13, zz14, zz20, zz21, zz23, zz24, zz30, zz31, zz32, zz34, zz40, zz41, zz42, zz43]
    · rw [ecm] at hy
      obtain rfl := Option.some.inj hy
      simp (disch := (first | assumption | (simp only [WF_e1, WF_e2, WF_e3, WF_e4, WF_e5]; assumption) | omega | decide)) only [fX14_compared, jn_e, MR0, MR1, MR4, ML166, ML167, ML170, Option.bind_some, hk, hk', show iN 1 = 1 from rfl, show iN 2 = 2 from rfl, zz01, zz02, zz03, zz04, zz10, zz12, zz13, zz14, zz20, zz21, zz23, zz24, zz30, zz31, zz32, zz34, zz40, zz41, zz42, zz43, if_true, if_false, hx1 rfl, hy2 rfl]
      by_cases c : 0 ≤ (Op.cmpValue (FP.fcmp (FP.i2f x) (r')) .g)
      · by_cases c2 : (Op.cmpValue (FP.fcmp (FP.i2f x) (r')) .l) ≤ 0
        · simp only [c, c2, if_true]
        · simp only [c, c2, if_true, if_false]
      · simp only [c, if_false]
  · have ecm : cmS (1, x, r, n, f) (3, x', r', n', f') = none := rfl
    refine ⟨?_, fun y hy => by rw [ecm] at hy; cases hy⟩
    rw [ecm]
    simp (disch := (first | assumption | (simp only [WF_e1, WF_e2, WF_e3, WF_e4, WF_e5]; assumption) | omega | decide)) only [fX14_areComparable, jn_e, MR0, ML166, if_true, if_false, Option.bind_some, hk, hk', show iN 1 = 1 from rfl, show iN 3 = 3 from rfl, zz01, zz02, zz03, zz04, zz10, zz12, zz13, zz14, zz20, zz21, zz23, zz24, zz30, zz31, zz32, zz34, zz40, zz41, zz42, zz43]
  · have ecm : cmS (1, x, r, n, f) (4, x', r', n', f') = none := rfl
    refine ⟨?_, fun y hy => by rw [ecm] at hy; cases hy⟩
    rw [ecm]
    simp (disch := (first | assumption | (simp only [WF_e1, WF_e2, WF_e3, WF_e4, WF_e5]; assumption) | omega | decide)) only [fX14_areComparable, jn_e, MR0, ML166, if_true, if_false, Option.bind_some, hk, hk', show iN 1 = 1 from rfl, show iN 4 = 4 from rfl, zz01, zz02, zz03, zz04, zz10, zz12, zz13, zz14, zz20, zz21, zz23, zz24, zz30, zz31, zz32, zz34, zz40, zz41, zz42, zz43]
  · have ecm : cmS (2, x, r, n, f) (0, x', r', n', f') = none := rfl
    refine ⟨?_, fun y hy => by rw [ecm] at hy; cases hy⟩
    rw [ecm]
    simp (disch := (first | assumption | (simp only [WF_e1, WF_e2, WF_e3, WF_e4, WF_e5]; assumption) | omega | decide)) only [fX14_areComparable, jn_e, MR0, ML166, if_true, if_false, Option.bind_some, hk, hk', show iN 2 = 2 from rfl, show iN 0 = 0 from rfl, zz01, zz02, zz03, zz04, zz10, zz12, zz13, zz14, zz20, zz21, zz23, zz24, zz30, zz31, zz32, zz34, zz40, zz41, zz42, zz43]
  · have ecm : cmS (2, x, r, n, f) (1, x', r', n', f') = some (if 0 ≤ (Op.cmpValue (FP.fcmp (r) (FP.i2f x')) .g) then (if (Op.cmpValue (FP.fcmp (r) (FP.i2f x')) .l) ≤ 0 then 0 else 1) else -1) := rfl
    refine ⟨?_, fun y hy => ?_⟩
    · rw [ecm]
      simp (disch := (first | assumption | (simp only [WF_e1, WF_e2, WF_e3, WF_e4, WF_e5]; assumption) | omega | decide)) only [fX14_areComparable, jn_e, MR0, ML166, if_true, if_false, Option.bind_some, hk, hk', show iN 2 = 2 from rfl, show iN 1 = 1 from rfl, zz01, zz02, zz03, zz04, zz10, zz12, zz13, zz14, zz20, zz21, zz23, zz24, zz30, zz31, zz32, zz34, zz40, zz41, zz42, zz43]
    · rw [ecm] at hy
      obtain rfl := Option.some.inj hy
      simp (disch := (first | assumption | (simp only [WF_e1, WF_e2, WF_e3, WF_e4, WF_e5]; assumption) | omega | decide)) only [fX14_compared, jn_e, MR0, MR1, MR4, ML166, ML167, ML170, Option.bind_some, hk, hk', show iN 1 = 1 from rfl, show iN 2 = 2 from rfl, zz01, zz02, zz03, zz04, zz10, zz12, zz13, zz14, zz20, zz21, zz23, zz24, zz30, zz31, zz32, zz34, zz40, zz41, zz42, zz43, if_true, if_false, hx2 rfl, hy1 rfl]
      by_cases c : 0 ≤ (Op.cmpValue (FP.fcmp (r) (FP.i2f x')) .g)
      · by_cases c2 : (Op.cmpValue (FP.fcmp (r) (FP.i2f x')) .l) ≤ 0
        · simp only [c, c2, if_true]
        · simp only [c, c2, if_true, if_false]
      · simp only [c, if_false]
  · have ecm : cmS (2, x, r, n, f) (2, x', r', n', f') = some (if 0 ≤ (Op.cmpValue (FP.fcmp (r) (r')) .g) then (if (Op.cmpValue (FP.fcmp (r) (r')) .l) ≤ 0 then 0 else 1) else -1) := rfl
    refine ⟨?_, fun y hy => ?_⟩
    · rw [ecm]
      simp (disch := (first | assumption | (simp only [WF_e1, WF_e2, WF_e3, WF_e4, WF_e5]; assumption) | omega | decide)) only [fX14_areComparable, jn_e, MR0, ML166, if_true, if_false, Option.bind_some, hk, hk', show iN 2 = 2 from rfl, show iN 2 = 2 from rfl, zz01, zz02, zz03, zz04, zz10, zz12, zz13, zz14, zz20, zz21, zz23, zz24, zz30, zz31, zz32, zz34, zz40, zz41, zz42, zz43]
    · rw [ecm] at hy
      obtain rfl := Option.some.inj hy
      simp (disch := (first | assumption | (simp only [WF_e1, WF_e2, WF_e3, WF_e4, WF_e5]; assumption) | omega | decide)) only [fX14_compared, jn_e, MR0, MR1, MR4, ML166, ML167, ML170, Option.bind_some, hk, hk', show iN 1 = 1 from rfl, show iN 2 = 2 from rfl, zz01, zz02, zz03, zz04, zz10, zz12, zz13, zz14, zz20, zz21, zz23, zz24, zz30, zz31, zz32, zz34, zz40, zz41, zz42, zz43, if_true, if_false, hx2 rfl, hy2 rfl]
      by_cases c : 0 ≤ (Op.cmpValue (FP.fcmp (r) (r')) .g)
      · by_cases c2 : (Op.cmpValue (FP.fcmp (r) (r')) .l) ≤ 0
        · simp only [c, c2, if_true]
        · simp only [c, c2, if_true, if_false]
      · simp only [c, if_false]
  · have ecm : cmS (2, x, r, n, f) (3, x', r', n', f') = none := rfl
    refine ⟨?_, fun y hy => by rw [ecm] at hy; cases hy⟩
    rw [ecm]
    simp (disch := (first | assumption | (simp only [WF_e1, WF_e2, WF_e3, WF_e4, WF_e5]; assumption) | omega | decide)) only [fX14_areComparable, jn_e, MR0, ML166, if_true, if_false, Option.bind_some, hk, hk', show iN 2 = 2 from rfl, show iN 3 = 3 from rfl, zz01, zz02, zz03, zz04, zz10, zz12, zz13, zz14, zz20, zz21, zz23, zz24, zz30, zz31, zz32, zz34, zz40, zz41, zz42, zz43]
  · have ecm : cmS (2, x, r, n, f) (4, x', r', n', f') = none := rfl
    refine ⟨?_, fun y hy => by rw [ecm] at hy; cases hy⟩
    rw [ecm]
    simp (disch := (first | assumption | (simp only [WF_e1, WF_e2, WF_e3, WF_e4, WF_e5]; assumption) | omega | decide)) only [fX14_areComparable, jn_e, MR0, ML166, if_true, if_false, Option.bind_some, hk, hk', show iN 2 = 2 from rfl, show iN 4 = 4 from rfl, zz01, zz02, zz03, zz04, zz10, zz12, zz13, zz14, zz20, zz21, zz23, zz24, zz30, zz31, zz32, zz34, zz40, zz41, zz42, zz43]
  · have ecm : cmS (3, x, r, n, f) (0, x', r', n', f') = none := rfl
    refine ⟨?_, fun y hy => by rw [ecm] at hy; cases hy⟩
    rw [ecm]
    simp (disch := (first | assumption | (simp only [WF_e1, WF_e2, WF_e3, WF_e4, WF_e5]; assumption) | omega | decide)) only [fX14_areComparable, jn_e, MR0, ML166, if_true, if_false, Option.bind_some, hk, hk', show iN 3 = 3 from rfl, show iN 0 = 0 from rfl, zz01, zz02, zz03, zz04, zz10, zz12, zz13, zz14, zz20, zz21, zz23, zz24, zz30, zz31, zz32, zz34, zz40, zz41, zz42, zz43]
  · have ecm : cmS (3, x, r, n, f) (1, x', r', n', f') = none := rfl
    refine ⟨?_, fun y hy => by rw [ecm] at hy; cases hy⟩
    rw [ecm]
    simp (disch := (first | assumption | (simp only [WF_e1, WF_e2, WF_e3, WF_e4, WF_e5]; assumption) | omega | decide)) only [fX14_areComparable, jn_e, MR0, ML166, if_true, if_false, Option.bind_some, hk, hk', show iN 3 = 3 from rfl, show iN 1 = 1 from rfl, zz01, zz02, zz03, zz04, zz10, zz12, zz13, zz14, zz20, zz21, zz23, zz24, zz30, zz31, zz32, zz34, zz40, zz41, zz42, zz43]
  · have ecm : cmS (3, x, r, n, f) (2, x', r', n', f') = none := rfl
    refine ⟨?_, fun y hy => by rw [ecm] at hy; cases hy⟩
    rw [ecm]
    simp (disch := (first | assumption | (simp only [WF_e1, WF_e2, WF_e3, WF_e4, WF_e5]; assumption) | omega | decide)) only [fX14_areComparable, jn_e, MR0, ML166, if_true, if_false, Option.bind_some, hk, hk', show iN 3 = 3 from rfl, show iN 2 = 2 from rfl, zz01, zz02, zz03, zz04, zz10, zz12, zz13, zz14, zz20, zz21, zz23, zz24, zz30, zz31, zz32, zz34, zz40, zz41, zz42, zz43]
  · have ecm : cmS (3, x, r, n, f) (3, x', r', n', f') = some (tcF f f' n n' (min n n') 0) := rfl
    refine ⟨?_, fun y hy => ?_⟩
    · rw [ecm]
      simp (disch := (first | assumption | (simp only [WF_e1, WF_e2, WF_e3, WF_e4, WF_e5]; assumption) | omega | decide)) only [fX14_areComparable, jn_e, MR0, ML166, if_true, if_false, Option.bind_some, hk, hk', show iN 3 = 3 from rfl, show iN 3 = 3 from rfl, zz01, zz02, zz03, zz04, zz10, zz12, zz13, zz14, zz20, zz21, zz23, zz24, zz30, zz31, zz32, zz34, zz40, zz41, zz42, zz43]
    · rw [ecm] at hy
      obtain rfl := Option.some.inj hy
      obtain ⟨hs, hn, hf⟩ := H.2.2.2.2 (by show 3 ≤ 3; decide)
      replace hs : hI h 168 t = iN n := hs
      replace hn : n ≤ 16 := hn
      obtain ⟨hs', hn', hf'⟩ := H'.2.2.2.2 (by show 3 ≤ 3; decide)
      replace hs' : hI h 168 t' = iN n' := hs'
      replace hn' : n' ≤ 16 := hn'
      simp (disch := (first | assumption | (simp only [WF_e1, WF_e2, WF_e3, WF_e4, WF_e5]; assumption) | omega | decide)) only [fX14_compared, MR0, ML166, Option.bind_some, hk, show iN 3 = 3 from rfl, if_true, bd3]
      rcases mTc_l w ht ht' hs hs' hn hn' hf hf' (min n n') 0 FU (by omega) (by show _ < 1000000; omega) with ⟨y, e1, e2⟩ | ⟨e1, e2⟩
      · rw [show fX14_compared_l12 FU 165 (iN t) (iN t') 0 h = _ from e1, e2]
        rfl
      · rw [show fX14_compared_l12 FU 165 (iN t) (iN t') 0 h = _ from e1, e2]
        simp (disch := (first | assumption | (simp only [WF_e1, WF_e2, WF_e3, WF_e4, WF_e5]; assumption) | omega | decide)) only [Option.bind_some, show ¬ (1 : Nat) = 0 by decide, if_false, if_true, MR2, ML168, hs, hs']
  · have ecm : cmS (3, x, r, n, f) (4, x', r', n', f') = none := rfl
    refine ⟨?_, fun y hy => by rw [ecm] at hy; cases hy⟩
    rw [ecm]
    simp (disch := (first | assumption | (simp only [WF_e1, WF_e2, WF_e3, WF_e4, WF_e5]; assumption) | omega | decide)) only [fX14_areComparable, jn_e, MR0, ML166, if_true, if_false, Option.bind_some, hk, hk', show iN 3 = 3 from rfl, show iN 4 = 4 from rfl, zz01, zz02, zz03, zz04, zz10, zz12, zz13, zz14, zz20, zz21, zz23, zz24, zz30, zz31, zz32, zz34, zz40, zz41, zz42, zz43]
  · have ecm : cmS (4, x, r, n, f) (0, x', r', n', f') = none := rfl
    refine ⟨?_, fun y hy => by rw [ecm] at hy; cases hy⟩
    rw [ecm]
    simp (disch := (first | assumption | (simp only [WF_e1, WF_e2, WF_e3, WF_e4, WF_e5]; assumption) | omega | decide)) only [fX14_areComparable, jn_e, MR0, ML166, if_true, if_false, Option.bind_some, hk, hk', show iN 4 = 4 from rfl, show iN 0 = 0 from rfl, zz01, zz02, zz03, zz04, zz10, zz12, zz13, zz14, zz20, zz21, zz23, zz24, zz30, zz31, zz32, zz34, zz40, zz41, zz42, zz43]
  · have ecm : cmS (4, x, r, n, f) (1, x', r', n', f') = none := rfl
    refine ⟨?_, fun y hy => by rw [ecm] at hy; cases hy⟩
    rw [ecm]
    simp (disch := (first | assumption | (simp only [WF_e1, WF_e2, WF_e3, WF_e4, WF_e5]; assumption) | omega | decide)) only [fX14_areComparable, jn_e, MR0, ML166, if_true, if_false, Option.bind_some, hk, hk', show iN 4 = 4 from rfl, show iN 1 = 1 from rfl, zz01, zz02, zz03, zz04, zz10, zz12, zz13, zz14, zz20, zz21, zz23, zz24, zz30, zz31, zz32, zz34, zz40, zz41, zz42, zz43]
  · have ecm : cmS (4, x, r, n, f) (2, x', r', n', f') = none := rfl
    refine ⟨?_, fun y hy => by rw [ecm] at hy; cases hy⟩
    rw [ecm]
    simp (disch := (first | assumption | (simp only [WF_e1, WF_e2, WF_e3, WF_e4, WF_e5]; assumption) | omega | decide)) only [fX14_areComparable, jn_e, MR0, ML166, if_true, if_false, Option.bind_some, hk, hk', show iN 4 = 4 from rfl, show iN 2 = 2 from rfl, zz01, zz02, zz03, zz04, zz10, zz12, zz13, zz14, zz20, zz21, zz23, zz24, zz30, zz31, zz32, zz34, zz40, zz41, zz42, zz43]
  · have ecm : cmS (4, x, r, n, f) (3, x', r', n', f') = none := rfl
    refine ⟨?_, fun y hy => by rw [ecm] at hy; cases hy⟩
    rw [ecm]
    simp (disch := (first | assumption | (simp only [WF_e1, WF_e2, WF_e3, WF_e4, WF_e5]; assumption) | omega | decide)) only [fX14_areComparable, jn_e, MR0, ML166, if_true, if_false, Option.bind_some, hk, hk', show iN 4 = 4 from rfl, show iN 3 = 3 from rfl, zz01, zz02, zz03, zz04, zz10, zz12, zz13, zz14, zz20, zz21, zz23, zz24, zz30, zz31, zz32, zz34, zz40, zz41, zz42, zz43]
  · have ecm : cmS (4, x, r, n, f) (4, x', r', n', f') = none := rfl
    refine ⟨?_, fun y hy => by rw [ecm] at hy; cases hy⟩
    rw [ecm]
    simp (disch := (first | assumption | (simp only [WF_e1, WF_e2, WF_e3, WF_e4, WF_e5]; assumption) | omega | decide)) only [fX14_areComparable, jn_e, MR0, ML166, if_true, if_false, Option.bind_some, hk, hk', show iN 4 = 4 from rfl, show iN 4 = 4 from rfl, zz01, zz02, zz03, zz04, zz10, zz12, zz13, zz14, zz20, zz21, zz23, zz24, zz30, zz31, zz32, zz34, zz40, zz41, zz42, zz43]
